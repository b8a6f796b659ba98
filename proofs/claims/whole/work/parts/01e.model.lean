theorem dX8_init_0 : decode cX8_init 0 = .ok (.aload_n 0, 1) := by decide +kernel
theorem dX8_init_1 : decode cX8_init 1 = .ok (.invokespecial 1, 3) := by decide +kernel
theorem dX8_init_4 : decode cX8_init 4 = .ok (.aload_n 0, 1) := by decide +kernel
theorem dX8_init_5 : decode cX8_init 5 = .ok (.bipush 6, 2) := by decide +kernel
theorem dX8_init_7 : decode cX8_init 7 = .ok (.newarray .int, 2) := by decide +kernel
theorem dX8_init_9 : decode cX8_init 9 = .ok (.putfield 7, 3) := by decide +kernel
theorem dX8_init_12 : decode cX8_init 12 = .ok (.aload_n 0, 1) := by decide +kernel
theorem dX8_init_13 : decode cX8_init 13 = .ok (.sipush 240, 3) := by decide +kernel
theorem dX8_init_16 : decode cX8_init 16 = .ok (.newarray .int, 2) := by decide +kernel
theorem dX8_init_18 : decode cX8_init 18 = .ok (.putfield 13, 3) := by decide +kernel
theorem dX8_init_21 : decode cX8_init 21 = .ok (.aload_n 0, 1) := by decide +kernel
theorem dX8_init_22 : decode cX8_init 22 = .ok (.iconst 4, 1) := by decide +kernel
theorem dX8_init_23 : decode cX8_init 23 = .ok (.newarray .int, 2) := by decide +kernel
theorem dX8_init_25 : decode cX8_init 25 = .ok (.putfield 16, 3) := by decide +kernel
theorem dX8_init_28 : decode cX8_init 28 = .ok (.aload_n 0, 1) := by decide +kernel
theorem dX8_init_29 : decode cX8_init 29 = .ok (.sipush 320, 3) := by decide +kernel
theorem dX8_init_32 : decode cX8_init 32 = .ok (.newarray .int, 2) := by decide +kernel
theorem dX8_init_34 : decode cX8_init 34 = .ok (.putfield 19, 3) := by decide +kernel
theorem dX8_init_37 : decode cX8_init 37 = .ok (.aload_n 0, 1) := by decide +kernel
theorem dX8_init_38 : decode cX8_init 38 = .ok (.bipush 115, 2) := by decide +kernel
theorem dX8_init_40 : decode cX8_init 40 = .ok (.newarray .int, 2) := by decide +kernel
theorem dX8_init_42 : decode cX8_init 42 = .ok (.putfield 22, 3) := by decide +kernel
theorem dX8_init_45 : decode cX8_init 45 = .ok (.aload_n 0, 1) := by decide +kernel
theorem dX8_init_46 : decode cX8_init 46 = .ok (.sipush 345, 3) := by decide +kernel
theorem dX8_init_49 : decode cX8_init 49 = .ok (.newarray .int, 2) := by decide +kernel
theorem dX8_init_51 : decode cX8_init 51 = .ok (.putfield 25, 3) := by decide +kernel
theorem dX8_init_54 : decode cX8_init 54 = .ok (.aload_n 0, 1) := by decide +kernel
theorem dX8_init_55 : decode cX8_init 55 = .ok (.iconst 3, 1) := by decide +kernel
theorem dX8_init_56 : decode cX8_init 56 = .ok (.newarray .boolean, 2) := by decide +kernel
theorem dX8_init_58 : decode cX8_init 58 = .ok (.putfield 28, 3) := by decide +kernel
theorem dX8_init_61 : decode cX8_init 61 = .ok (.aload_n 0, 1) := by decide +kernel
theorem dX8_init_62 : decode cX8_init 62 = .ok (.lconst 1, 1) := by decide +kernel
theorem dX8_init_63 : decode cX8_init 63 = .ok (.putfield 32, 3) := by decide +kernel
theorem dX8_init_66 : decode cX8_init 66 = .ok (.aload_n 0, 1) := by decide +kernel
theorem dX8_init_67 : decode cX8_init 67 = .ok (.bipush 6, 2) := by decide +kernel
theorem dX8_init_69 : decode cX8_init 69 = .ok (.newarray .int, 2) := by decide +kernel
theorem dX8_init_71 : decode cX8_init 71 = .ok (.putfield 36, 3) := by decide +kernel
theorem dX8_init_74 : decode cX8_init 74 = .ok (.aload_n 0, 1) := by decide +kernel
theorem dX8_init_75 : decode cX8_init 75 = .ok (.bipush 115, 2) := by decide +kernel
theorem dX8_init_77 : decode cX8_init 77 = .ok (.newarray .int, 2) := by decide +kernel
theorem dX8_init_79 : decode cX8_init 79 = .ok (.putfield 39, 3) := by decide +kernel
theorem dX8_init_82 : decode cX8_init 82 = .ok (.aload_n 0, 1) := by decide +kernel
theorem dX8_init_83 : decode cX8_init 83 = .ok (.sipush 4096, 3) := by decide +kernel
theorem dX8_init_86 : decode cX8_init 86 = .ok (.newarray .int, 2) := by decide +kernel
theorem dX8_init_88 : decode cX8_init 88 = .ok (.putfield 42, 3) := by decide +kernel
theorem dX8_init_91 : decode cX8_init 91 = .ok (.aload_n 0, 1) := by decide +kernel
theorem dX8_init_92 : decode cX8_init 92 = .ok (.sipush 4096, 3) := by decide +kernel
theorem dX8_init_95 : decode cX8_init 95 = .ok (.newarray .long, 2) := by decide +kernel
theorem dX8_init_97 : decode cX8_init 97 = .ok (.putfield 45, 3) := by decide +kernel
theorem dX8_init_100 : decode cX8_init 100 = .ok (.aload_n 0, 1) := by decide +kernel
theorem dX8_init_101 : decode cX8_init 101 = .ok (.bipush 6, 2) := by decide +kernel
theorem dX8_init_103 : decode cX8_init 103 = .ok (.newarray .int, 2) := by decide +kernel
theorem dX8_init_105 : decode cX8_init 105 = .ok (.putfield 49, 3) := by decide +kernel
theorem dX8_init_108 : decode cX8_init 108 = .ok (.iconst 0, 1) := by decide +kernel
theorem dX8_init_109 : decode cX8_init 109 = .ok (.istore_n 1, 1) := by decide +kernel
theorem dX8_init_110 : decode cX8_init 110 = .ok (.iload_n 1, 1) := by decide +kernel
theorem dX8_init_111 : decode cX8_init 111 = .ok (.bipush 6, 2) := by decide +kernel
theorem dX8_init_113 : decode cX8_init 113 = .ok (.if_icmp .ge 16, 3) := by decide +kernel
theorem dX8_init_116 : decode cX8_init 116 = .ok (.aload_n 0, 1) := by decide +kernel
theorem dX8_init_117 : decode cX8_init 117 = .ok (.getfield 7, 3) := by decide +kernel
theorem dX8_init_120 : decode cX8_init 120 = .ok (.iload_n 1, 1) := by decide +kernel
theorem dX8_init_121 : decode cX8_init 121 = .ok (.iconst (-1), 1) := by decide +kernel
theorem dX8_init_122 : decode cX8_init 122 = .ok (.iastore, 1) := by decide +kernel
theorem dX8_init_123 : decode cX8_init 123 = .ok (.iinc 1 1, 3) := by decide +kernel
theorem dX8_init_126 : decode cX8_init 126 = .ok (.goto (-16), 3) := by decide +kernel
theorem dX8_init_129 : decode cX8_init 129 = .ok (.iconst 0, 1) := by decide +kernel
theorem dX8_init_130 : decode cX8_init 130 = .ok (.istore_n 1, 1) := by decide +kernel
theorem dX8_init_131 : decode cX8_init 131 = .ok (.iload_n 1, 1) := by decide +kernel
theorem dX8_init_132 : decode cX8_init 132 = .ok (.iconst 4, 1) := by decide +kernel
theorem dX8_init_133 : decode cX8_init 133 = .ok (.if_icmp .ge 16, 3) := by decide +kernel
theorem dX8_init_136 : decode cX8_init 136 = .ok (.aload_n 0, 1) := by decide +kernel
theorem dX8_init_137 : decode cX8_init 137 = .ok (.getfield 16, 3) := by decide +kernel
theorem dX8_init_140 : decode cX8_init 140 = .ok (.iload_n 1, 1) := by decide +kernel
theorem dX8_init_141 : decode cX8_init 141 = .ok (.iconst (-1), 1) := by decide +kernel
theorem dX8_init_142 : decode cX8_init 142 = .ok (.iastore, 1) := by decide +kernel
theorem dX8_init_143 : decode cX8_init 143 = .ok (.iinc 1 1, 3) := by decide +kernel
theorem dX8_init_146 : decode cX8_init 146 = .ok (.goto (-15), 3) := by decide +kernel
theorem dX8_init_149 : decode cX8_init 149 = .ok (.return_, 1) := by decide +kernel
theorem dX8_in_0 : decode cX8_in 0 = .ok (.lload_n 0, 1) := by decide +kernel
theorem dX8_in_1 : decode cX8_in 1 = .ok (.lload_n 2, 1) := by decide +kernel
theorem dX8_in_2 : decode cX8_in 2 = .ok (.lcmp, 1) := by decide +kernel
theorem dX8_in_3 : decode cX8_in 3 = .ok (.ifCond .lt 14, 3) := by decide +kernel
theorem dX8_in_6 : decode cX8_in 6 = .ok (.lload_n 0, 1) := by decide +kernel
theorem dX8_in_7 : decode cX8_in 7 = .ok (.lload 4, 2) := by decide +kernel
theorem dX8_in_9 : decode cX8_in 9 = .ok (.lcmp, 1) := by decide +kernel
theorem dX8_in_10 : decode cX8_in 10 = .ok (.ifCond .gt 7, 3) := by decide +kernel
theorem dX8_in_13 : decode cX8_in 13 = .ok (.iconst 1, 1) := by decide +kernel
theorem dX8_in_14 : decode cX8_in 14 = .ok (.goto 4, 3) := by decide +kernel
theorem dX8_in_17 : decode cX8_in 17 = .ok (.iconst 0, 1) := by decide +kernel
theorem dX8_in_18 : decode cX8_in 18 = .ok (.ireturn, 1) := by decide +kernel
theorem dX8_found_0 : decode cX8_found 0 = .ok (.aload_n 0, 1) := by decide +kernel
theorem dX8_found_1 : decode cX8_found 1 = .ok (.iload_n 1, 1) := by decide +kernel
theorem dX8_found_2 : decode cX8_found 2 = .ok (.putfield 52, 3) := by decide +kernel
theorem dX8_found_5 : decode cX8_found 5 = .ok (.aload_n 0, 1) := by decide +kernel
theorem dX8_found_6 : decode cX8_found 6 = .ok (.getfield 36, 3) := by decide +kernel
theorem dX8_found_9 : decode cX8_found 9 = .ok (.iload_n 1, 1) := by decide +kernel
theorem dX8_found_10 : decode cX8_found 10 = .ok (.dup2, 1) := by decide +kernel
theorem dX8_found_11 : decode cX8_found 11 = .ok (.iaload, 1) := by decide +kernel
theorem dX8_found_12 : decode cX8_found 12 = .ok (.iconst 1, 1) := by decide +kernel
theorem dX8_found_13 : decode cX8_found 13 = .ok (.iadd, 1) := by decide +kernel
theorem dX8_found_14 : decode cX8_found 14 = .ok (.iastore, 1) := by decide +kernel
theorem dX8_found_15 : decode cX8_found 15 = .ok (.bipush (-3), 2) := by decide +kernel
theorem dX8_found_17 : decode cX8_found 17 = .ok (.ireturn, 1) := by decide +kernel
theorem dX8_tell_0 : decode cX8_tell 0 = .ok (.aload_n 0, 1) := by decide +kernel
theorem dX8_tell_1 : decode cX8_tell 1 = .ok (.iload_n 1, 1) := by decide +kernel
theorem dX8_tell_2 : decode cX8_tell 2 = .ok (.putfield 56, 3) := by decide +kernel
theorem dX8_tell_5 : decode cX8_tell 5 = .ok (.iconst 1, 1) := by decide +kernel
theorem dX8_tell_6 : decode cX8_tell 6 = .ok (.ireturn, 1) := by decide +kernel
theorem dX8_answer_0 : decode cX8_answer 0 = .ok (.aload_n 0, 1) := by decide +kernel
theorem dX8_answer_1 : decode cX8_answer 1 = .ok (.iload_n 2, 1) := by decide +kernel
theorem dX8_answer_2 : decode cX8_answer 2 = .ok (.putfield 56, 3) := by decide +kernel
theorem dX8_answer_5 : decode cX8_answer 5 = .ok (.iload_n 1, 1) := by decide +kernel
theorem dX8_answer_6 : decode cX8_answer 6 = .ok (.ireturn, 1) := by decide +kernel
set_option maxRecDepth 20000 in
theorem ggX8_isRow_X8_in : GoodIn wsX8_isRow wsX8_in := goodIn_r _ [5] (by decide +kernel) (by decide +kernel)
set_option maxRecDepth 20000 in
theorem gX8_isRow_X8_in : GoodIn wsX8_isRow (va_wsS RX8 61 yX8_in wsX8_in) := goodIn_app (goodIn_of _ (by decide +kernel)) ggX8_isRow_X8_in
theorem dX8_isRow_0 : decode cX8_isRow 0 = .ok (.iload_n 0, 1) := by decide +kernel
theorem dX8_isRow_1 : decode cX8_isRow 1 = .ok (.i2l, 1) := by decide +kernel
theorem dX8_isRow_2 : decode cX8_isRow 2 = .ok (.lconst 0, 1) := by decide +kernel
theorem dX8_isRow_3 : decode cX8_isRow 3 = .ok (.ldc2_w 59, 3) := by decide +kernel
theorem dX8_isRow_6 : decode cX8_isRow 6 = .ok (.invokestatic 61, 3) := by decide +kernel
theorem dX8_isRow_9 : decode cX8_isRow 9 = .ok (.ireturn, 1) := by decide +kernel
set_option maxRecDepth 20000 in
theorem ggX8_isText_X8_in : GoodIn wsX8_isText wsX8_in := goodIn_r _ [5] (by decide +kernel) (by decide +kernel)
set_option maxRecDepth 20000 in
theorem gX8_isText_X8_in : GoodIn wsX8_isText (va_wsS RX8 61 yX8_in wsX8_in) := goodIn_app (goodIn_of _ (by decide +kernel)) ggX8_isText_X8_in
theorem dX8_isText_0 : decode cX8_isText 0 = .ok (.iload_n 0, 1) := by decide +kernel
theorem dX8_isText_1 : decode cX8_isText 1 = .ok (.i2l, 1) := by decide +kernel
theorem dX8_isText_2 : decode cX8_isText 2 = .ok (.lconst 0, 1) := by decide +kernel
theorem dX8_isText_3 : decode cX8_isText 3 = .ok (.ldc2_w 65, 3) := by decide +kernel
theorem dX8_isText_6 : decode cX8_isText 6 = .ok (.invokestatic 61, 3) := by decide +kernel
theorem dX8_isText_9 : decode cX8_isText 9 = .ok (.ireturn, 1) := by decide +kernel
set_option maxRecDepth 20000 in
theorem ggX8_row_X8_isRow : GoodIn wsX8_row wsX8_isRow := goodIn_r _ [6, 7, 8, 9, 5, 10] (by decide +kernel) (by decide +kernel)
set_option maxRecDepth 20000 in
theorem gX8_row_X8_isRow : GoodIn wsX8_row (va_wsS RX8 67 yX8_isRow wsX8_isRow) := goodIn_app (goodIn_of _ (by decide +kernel)) ggX8_row_X8_isRow
set_option maxRecDepth 20000 in
theorem ggX8_row_X8_found : GoodIn wsX8_row wsX8_found := goodIn_r _ [14, 15, 16, 17, 18, 19, 20, 21, 22, 23, 24, 25, 26, 27, 28, 29, 30, 31, 32, 33] (by decide +kernel) (by decide +kernel)
set_option maxRecDepth 20000 in
theorem gX8_row_X8_found : GoodIn wsX8_row (wsV RX8 71 RX8 yX8_found wsX8_found) := goodIn_app (goodIn_of _ (by decide +kernel)) ggX8_row_X8_found
theorem dX8_row_0 : decode cX8_row 0 = .ok (.iload_n 1, 1) := by decide +kernel
theorem dX8_row_1 : decode cX8_row 1 = .ok (.invokestatic 67, 3) := by decide +kernel
theorem dX8_row_4 : decode cX8_row 4 = .ok (.ifCond .eq 9, 3) := by decide +kernel
theorem dX8_row_7 : decode cX8_row 7 = .ok (.iload_n 2, 1) := by decide +kernel
theorem dX8_row_8 : decode cX8_row 8 = .ok (.bipush 40, 2) := by decide +kernel
theorem dX8_row_10 : decode cX8_row 10 = .ok (.if_icmp .le 5, 3) := by decide +kernel
theorem dX8_row_13 : decode cX8_row 13 = .ok (.iconst (-1), 1) := by decide +kernel
theorem dX8_row_14 : decode cX8_row 14 = .ok (.ireturn, 1) := by decide +kernel
theorem dX8_row_15 : decode cX8_row 15 = .ok (.iload_n 2, 1) := by decide +kernel
theorem dX8_row_16 : decode cX8_row 16 = .ok (.ifCond .ge 9, 3) := by decide +kernel
theorem dX8_row_19 : decode cX8_row 19 = .ok (.aload_n 0, 1) := by decide +kernel
theorem dX8_row_20 : decode cX8_row 20 = .ok (.iconst 5, 1) := by decide +kernel
theorem dX8_row_21 : decode cX8_row 21 = .ok (.invokevirtual 71, 3) := by decide +kernel
theorem dX8_row_24 : decode cX8_row 24 = .ok (.ireturn, 1) := by decide +kernel
theorem dX8_row_25 : decode cX8_row 25 = .ok (.aload_n 0, 1) := by decide +kernel
theorem dX8_row_26 : decode cX8_row 26 = .ok (.getfield 7, 3) := by decide +kernel
theorem dX8_row_29 : decode cX8_row 29 = .ok (.iload_n 1, 1) := by decide +kernel
theorem dX8_row_30 : decode cX8_row 30 = .ok (.iload_n 2, 1) := by decide +kernel
theorem dX8_row_31 : decode cX8_row 31 = .ok (.iastore, 1) := by decide +kernel
theorem dX8_row_32 : decode cX8_row 32 = .ok (.iconst 0, 1) := by decide +kernel
theorem dX8_row_33 : decode cX8_row 33 = .ok (.istore_n 3, 1) := by decide +kernel
theorem dX8_row_34 : decode cX8_row 34 = .ok (.iload_n 3, 1) := by decide +kernel
theorem dX8_row_35 : decode cX8_row 35 = .ok (.bipush 40, 2) := by decide +kernel
theorem dX8_row_37 : decode cX8_row 37 = .ok (.if_icmp .ge 21, 3) := by decide +kernel
theorem dX8_row_40 : decode cX8_row 40 = .ok (.aload_n 0, 1) := by decide +kernel
theorem dX8_row_41 : decode cX8_row 41 = .ok (.getfield 13, 3) := by decide +kernel
theorem dX8_row_44 : decode cX8_row 44 = .ok (.bipush 40, 2) := by decide +kernel
theorem dX8_row_46 : decode cX8_row 46 = .ok (.iload_n 1, 1) := by decide +kernel
theorem dX8_row_47 : decode cX8_row 47 = .ok (.imul, 1) := by decide +kernel
theorem dX8_row_48 : decode cX8_row 48 = .ok (.iload_n 3, 1) := by decide +kernel
theorem dX8_row_49 : decode cX8_row 49 = .ok (.iadd, 1) := by decide +kernel
theorem dX8_row_50 : decode cX8_row 50 = .ok (.iconst 0, 1) := by decide +kernel
theorem dX8_row_51 : decode cX8_row 51 = .ok (.iastore, 1) := by decide +kernel
theorem dX8_row_52 : decode cX8_row 52 = .ok (.iinc 3 1, 3) := by decide +kernel
theorem dX8_row_55 : decode cX8_row 55 = .ok (.goto (-21), 3) := by decide +kernel
theorem dX8_row_58 : decode cX8_row 58 = .ok (.iload_n 2, 1) := by decide +kernel
theorem dX8_row_59 : decode cX8_row 59 = .ok (.ireturn, 1) := by decide +kernel
set_option maxRecDepth 20000 in
theorem ggX8_lay_X8_isRow : GoodIn wsX8_lay wsX8_isRow := goodIn_r _ [6, 7, 8, 9, 5, 10] (by decide +kernel) (by decide +kernel)
set_option maxRecDepth 20000 in
theorem gX8_lay_X8_isRow : GoodIn wsX8_lay (va_wsS RX8 67 yX8_isRow wsX8_isRow) := goodIn_app (goodIn_of _ (by decide +kernel)) ggX8_lay_X8_isRow
set_option maxRecDepth 20000 in
theorem ggX8_lay_X8_found : GoodIn wsX8_lay wsX8_found := goodIn_r _ [14, 15, 16, 22, 23, 24, 25, 26, 27, 28, 29, 30, 31, 32, 33, 34, 35, 36, 37, 38] (by decide +kernel) (by decide +kernel)
set_option maxRecDepth 20000 in
theorem gX8_lay_X8_found : GoodIn wsX8_lay (wsV RX8 71 RX8 yX8_found wsX8_found) := goodIn_app (goodIn_of _ (by decide +kernel)) ggX8_lay_X8_found
set_option maxRecDepth 20000 in
theorem ggX8_lay_X8_in : GoodIn wsX8_lay wsX8_in := goodIn_r _ [10] (by decide +kernel) (by decide +kernel)
set_option maxRecDepth 20000 in
theorem gX8_lay_X8_in : GoodIn wsX8_lay (va_wsS RX8 61 yX8_in wsX8_in) := goodIn_app (goodIn_of _ (by decide +kernel)) ggX8_lay_X8_in
set_option maxRecDepth 20000 in
theorem ggX8_lay_X8_tell : GoodIn wsX8_lay wsX8_tell := goodIn_r _ [20, 21, 22, 23, 24, 25, 26, 27, 28, 29, 30, 31, 32, 33, 34, 35, 36, 37, 38] (by decide +kernel) (by decide +kernel)
set_option maxRecDepth 20000 in
theorem gX8_lay_X8_tell : GoodIn wsX8_lay (wsV RX8 75 RX8 yX8_tell wsX8_tell) := goodIn_app (goodIn_of _ (by decide +kernel)) ggX8_lay_X8_tell
theorem dX8_lay_0 : decode cX8_lay 0 = .ok (.iload_n 1, 1) := by decide +kernel
theorem dX8_lay_1 : decode cX8_lay 1 = .ok (.invokestatic 67, 3) := by decide +kernel
theorem dX8_lay_4 : decode cX8_lay 4 = .ok (.ifCond .ne 5, 3) := by decide +kernel
theorem dX8_lay_7 : decode cX8_lay 7 = .ok (.iconst (-1), 1) := by decide +kernel
theorem dX8_lay_8 : decode cX8_lay 8 = .ok (.ireturn, 1) := by decide +kernel
theorem dX8_lay_9 : decode cX8_lay 9 = .ok (.aload_n 0, 1) := by decide +kernel
theorem dX8_lay_10 : decode cX8_lay 10 = .ok (.getfield 7, 3) := by decide +kernel
theorem dX8_lay_13 : decode cX8_lay 13 = .ok (.iload_n 1, 1) := by decide +kernel
theorem dX8_lay_14 : decode cX8_lay 14 = .ok (.iaload, 1) := by decide +kernel
theorem dX8_lay_15 : decode cX8_lay 15 = .ok (.ifCond .ge 9, 3) := by decide +kernel
theorem dX8_lay_18 : decode cX8_lay 18 = .ok (.aload_n 0, 1) := by decide +kernel
theorem dX8_lay_19 : decode cX8_lay 19 = .ok (.iconst 1, 1) := by decide +kernel
theorem dX8_lay_20 : decode cX8_lay 20 = .ok (.invokevirtual 71, 3) := by decide +kernel
theorem dX8_lay_23 : decode cX8_lay 23 = .ok (.ireturn, 1) := by decide +kernel
theorem dX8_lay_24 : decode cX8_lay 24 = .ok (.iload_n 2, 1) := by decide +kernel
theorem dX8_lay_25 : decode cX8_lay 25 = .ok (.i2l, 1) := by decide +kernel
theorem dX8_lay_26 : decode cX8_lay 26 = .ok (.lconst 0, 1) := by decide +kernel
theorem dX8_lay_27 : decode cX8_lay 27 = .ok (.aload_n 0, 1) := by decide +kernel
theorem dX8_lay_28 : decode cX8_lay 28 = .ok (.getfield 7, 3) := by decide +kernel
theorem dX8_lay_31 : decode cX8_lay 31 = .ok (.iload_n 1, 1) := by decide +kernel
theorem dX8_lay_32 : decode cX8_lay 32 = .ok (.iaload, 1) := by decide +kernel
theorem dX8_lay_33 : decode cX8_lay 33 = .ok (.iconst 1, 1) := by decide +kernel
theorem dX8_lay_34 : decode cX8_lay 34 = .ok (.isub, 1) := by decide +kernel
theorem dX8_lay_35 : decode cX8_lay 35 = .ok (.i2l, 1) := by decide +kernel
theorem dX8_lay_36 : decode cX8_lay 36 = .ok (.invokestatic 61, 3) := by decide +kernel
theorem dX8_lay_39 : decode cX8_lay 39 = .ok (.ifCond .ne 9, 3) := by decide +kernel
theorem dX8_lay_42 : decode cX8_lay 42 = .ok (.aload_n 0, 1) := by decide +kernel
theorem dX8_lay_43 : decode cX8_lay 43 = .ok (.iconst 2, 1) := by decide +kernel
theorem dX8_lay_44 : decode cX8_lay 44 = .ok (.invokevirtual 71, 3) := by decide +kernel
theorem dX8_lay_47 : decode cX8_lay 47 = .ok (.ireturn, 1) := by decide +kernel
theorem dX8_lay_48 : decode cX8_lay 48 = .ok (.aload_n 0, 1) := by decide +kernel
theorem dX8_lay_49 : decode cX8_lay 49 = .ok (.getfield 13, 3) := by decide +kernel
theorem dX8_lay_52 : decode cX8_lay 52 = .ok (.bipush 40, 2) := by decide +kernel
theorem dX8_lay_54 : decode cX8_lay 54 = .ok (.iload_n 1, 1) := by decide +kernel
theorem dX8_lay_55 : decode cX8_lay 55 = .ok (.imul, 1) := by decide +kernel
theorem dX8_lay_56 : decode cX8_lay 56 = .ok (.iload_n 2, 1) := by decide +kernel
theorem dX8_lay_57 : decode cX8_lay 57 = .ok (.iadd, 1) := by decide +kernel
theorem dX8_lay_58 : decode cX8_lay 58 = .ok (.iaload, 1) := by decide +kernel
theorem dX8_lay_59 : decode cX8_lay 59 = .ok (.istore 4, 2) := by decide +kernel
theorem dX8_lay_61 : decode cX8_lay 61 = .ok (.aload_n 0, 1) := by decide +kernel
theorem dX8_lay_62 : decode cX8_lay 62 = .ok (.getfield 13, 3) := by decide +kernel
theorem dX8_lay_65 : decode cX8_lay 65 = .ok (.bipush 40, 2) := by decide +kernel
theorem dX8_lay_67 : decode cX8_lay 67 = .ok (.iload_n 1, 1) := by decide +kernel
theorem dX8_lay_68 : decode cX8_lay 68 = .ok (.imul, 1) := by decide +kernel
theorem dX8_lay_69 : decode cX8_lay 69 = .ok (.iload_n 2, 1) := by decide +kernel
theorem dX8_lay_70 : decode cX8_lay 70 = .ok (.iadd, 1) := by decide +kernel
theorem dX8_lay_71 : decode cX8_lay 71 = .ok (.iload_n 3, 1) := by decide +kernel
theorem dX8_lay_72 : decode cX8_lay 72 = .ok (.iastore, 1) := by decide +kernel
theorem dX8_lay_73 : decode cX8_lay 73 = .ok (.aload_n 0, 1) := by decide +kernel
theorem dX8_lay_74 : decode cX8_lay 74 = .ok (.iload 4, 2) := by decide +kernel
theorem dX8_lay_76 : decode cX8_lay 76 = .ok (.invokevirtual 75, 3) := by decide +kernel
theorem dX8_lay_79 : decode cX8_lay 79 = .ok (.ireturn, 1) := by decide +kernel
set_option maxRecDepth 20000 in
theorem ggX8_at_X8_isRow : GoodIn wsX8_at wsX8_isRow := goodIn_r _ [6, 7, 8, 9, 5, 10] (by decide +kernel) (by decide +kernel)
set_option maxRecDepth 20000 in
theorem gX8_at_X8_isRow : GoodIn wsX8_at (va_wsS RX8 67 yX8_isRow wsX8_isRow) := goodIn_app (goodIn_of _ (by decide +kernel)) ggX8_at_X8_isRow
set_option maxRecDepth 20000 in
theorem ggX8_at_X8_found : GoodIn wsX8_at wsX8_found := goodIn_r _ [14, 15, 16, 22, 23, 24, 25, 26, 27, 28, 29, 30, 31, 32, 33, 34, 35, 36, 37, 38] (by decide +kernel) (by decide +kernel)
set_option maxRecDepth 20000 in
theorem gX8_at_X8_found : GoodIn wsX8_at (wsV RX8 71 RX8 yX8_found wsX8_found) := goodIn_app (goodIn_of _ (by decide +kernel)) ggX8_at_X8_found
set_option maxRecDepth 20000 in
theorem ggX8_at_X8_in : GoodIn wsX8_at wsX8_in := goodIn_r _ [10] (by decide +kernel) (by decide +kernel)
set_option maxRecDepth 20000 in
theorem gX8_at_X8_in : GoodIn wsX8_at (va_wsS RX8 61 yX8_in wsX8_in) := goodIn_app (goodIn_of _ (by decide +kernel)) ggX8_at_X8_in
set_option maxRecDepth 20000 in
theorem ggX8_at_X8_tell : GoodIn wsX8_at wsX8_tell := goodIn_r _ [20, 21, 22, 23, 24, 25, 26, 27, 28, 29, 30, 31, 32, 33, 34, 35, 36, 37, 38] (by decide +kernel) (by decide +kernel)
set_option maxRecDepth 20000 in
theorem gX8_at_X8_tell : GoodIn wsX8_at (wsV RX8 75 RX8 yX8_tell wsX8_tell) := goodIn_app (goodIn_of _ (by decide +kernel)) ggX8_at_X8_tell
theorem dX8_at_0 : decode cX8_at 0 = .ok (.iload_n 1, 1) := by decide +kernel
theorem dX8_at_1 : decode cX8_at 1 = .ok (.invokestatic 67, 3) := by decide +kernel
theorem dX8_at_4 : decode cX8_at 4 = .ok (.ifCond .ne 5, 3) := by decide +kernel
theorem dX8_at_7 : decode cX8_at 7 = .ok (.iconst (-1), 1) := by decide +kernel
theorem dX8_at_8 : decode cX8_at 8 = .ok (.ireturn, 1) := by decide +kernel
theorem dX8_at_9 : decode cX8_at 9 = .ok (.aload_n 0, 1) := by decide +kernel
theorem dX8_at_10 : decode cX8_at 10 = .ok (.getfield 7, 3) := by decide +kernel
theorem dX8_at_13 : decode cX8_at 13 = .ok (.iload_n 1, 1) := by decide +kernel
theorem dX8_at_14 : decode cX8_at 14 = .ok (.iaload, 1) := by decide +kernel
theorem dX8_at_15 : decode cX8_at 15 = .ok (.ifCond .ge 9, 3) := by decide +kernel
theorem dX8_at_18 : decode cX8_at 18 = .ok (.aload_n 0, 1) := by decide +kernel
theorem dX8_at_19 : decode cX8_at 19 = .ok (.iconst 1, 1) := by decide +kernel
theorem dX8_at_20 : decode cX8_at 20 = .ok (.invokevirtual 71, 3) := by decide +kernel
theorem dX8_at_23 : decode cX8_at 23 = .ok (.ireturn, 1) := by decide +kernel
theorem dX8_at_24 : decode cX8_at 24 = .ok (.iload_n 2, 1) := by decide +kernel
theorem dX8_at_25 : decode cX8_at 25 = .ok (.i2l, 1) := by decide +kernel
theorem dX8_at_26 : decode cX8_at 26 = .ok (.lconst 0, 1) := by decide +kernel
theorem dX8_at_27 : decode cX8_at 27 = .ok (.aload_n 0, 1) := by decide +kernel
theorem dX8_at_28 : decode cX8_at 28 = .ok (.getfield 7, 3) := by decide +kernel
theorem dX8_at_31 : decode cX8_at 31 = .ok (.iload_n 1, 1) := by decide +kernel
theorem dX8_at_32 : decode cX8_at 32 = .ok (.iaload, 1) := by decide +kernel
theorem dX8_at_33 : decode cX8_at 33 = .ok (.iconst 1, 1) := by decide +kernel
theorem dX8_at_34 : decode cX8_at 34 = .ok (.isub, 1) := by decide +kernel
theorem dX8_at_35 : decode cX8_at 35 = .ok (.i2l, 1) := by decide +kernel
theorem dX8_at_36 : decode cX8_at 36 = .ok (.invokestatic 61, 3) := by decide +kernel
theorem dX8_at_39 : decode cX8_at 39 = .ok (.ifCond .eq 21, 3) := by decide +kernel
theorem dX8_at_42 : decode cX8_at 42 = .ok (.aload_n 0, 1) := by decide +kernel
theorem dX8_at_43 : decode cX8_at 43 = .ok (.aload_n 0, 1) := by decide +kernel
theorem dX8_at_44 : decode cX8_at 44 = .ok (.getfield 13, 3) := by decide +kernel
theorem dX8_at_47 : decode cX8_at 47 = .ok (.bipush 40, 2) := by decide +kernel
theorem dX8_at_49 : decode cX8_at 49 = .ok (.iload_n 1, 1) := by decide +kernel
theorem dX8_at_50 : decode cX8_at 50 = .ok (.imul, 1) := by decide +kernel
theorem dX8_at_51 : decode cX8_at 51 = .ok (.iload_n 2, 1) := by decide +kernel
theorem dX8_at_52 : decode cX8_at 52 = .ok (.iadd, 1) := by decide +kernel
theorem dX8_at_53 : decode cX8_at 53 = .ok (.iaload, 1) := by decide +kernel
theorem dX8_at_54 : decode cX8_at 54 = .ok (.invokevirtual 75, 3) := by decide +kernel
theorem dX8_at_57 : decode cX8_at 57 = .ok (.goto 8, 3) := by decide +kernel
theorem dX8_at_60 : decode cX8_at 60 = .ok (.aload_n 0, 1) := by decide +kernel
theorem dX8_at_61 : decode cX8_at 61 = .ok (.iconst 2, 1) := by decide +kernel
theorem dX8_at_62 : decode cX8_at 62 = .ok (.invokevirtual 71, 3) := by decide +kernel
theorem dX8_at_65 : decode cX8_at 65 = .ok (.ireturn, 1) := by decide +kernel
set_option maxRecDepth 20000 in
theorem ggX8_tear_X8_isRow : GoodIn wsX8_tear wsX8_isRow := goodIn_r _ [5, 6, 7, 8, 4, 9] (by decide +kernel) (by decide +kernel)
set_option maxRecDepth 20000 in
theorem gX8_tear_X8_isRow : GoodIn wsX8_tear (va_wsS RX8 67 yX8_isRow wsX8_isRow) := goodIn_app (goodIn_of _ (by decide +kernel)) ggX8_tear_X8_isRow
set_option maxRecDepth 20000 in
theorem ggX8_tear_X8_found : GoodIn wsX8_tear wsX8_found := goodIn_r _ [13, 14, 15, 16, 17, 18, 19, 20, 21, 22, 23, 24, 25, 26, 27, 28, 29, 30, 31, 32] (by decide +kernel) (by decide +kernel)
set_option maxRecDepth 20000 in
theorem gX8_tear_X8_found : GoodIn wsX8_tear (wsV RX8 71 RX8 yX8_found wsX8_found) := goodIn_app (goodIn_of _ (by decide +kernel)) ggX8_tear_X8_found
theorem dX8_tear_0 : decode cX8_tear 0 = .ok (.iload_n 1, 1) := by decide +kernel
theorem dX8_tear_1 : decode cX8_tear 1 = .ok (.invokestatic 67, 3) := by decide +kernel
theorem dX8_tear_4 : decode cX8_tear 4 = .ok (.ifCond .ne 5, 3) := by decide +kernel
theorem dX8_tear_7 : decode cX8_tear 7 = .ok (.iconst (-1), 1) := by decide +kernel
theorem dX8_tear_8 : decode cX8_tear 8 = .ok (.ireturn, 1) := by decide +kernel
theorem dX8_tear_9 : decode cX8_tear 9 = .ok (.aload_n 0, 1) := by decide +kernel
theorem dX8_tear_10 : decode cX8_tear 10 = .ok (.getfield 7, 3) := by decide +kernel
theorem dX8_tear_13 : decode cX8_tear 13 = .ok (.iload_n 1, 1) := by decide +kernel
theorem dX8_tear_14 : decode cX8_tear 14 = .ok (.iaload, 1) := by decide +kernel
theorem dX8_tear_15 : decode cX8_tear 15 = .ok (.ifCond .ge 9, 3) := by decide +kernel
theorem dX8_tear_18 : decode cX8_tear 18 = .ok (.aload_n 0, 1) := by decide +kernel
theorem dX8_tear_19 : decode cX8_tear 19 = .ok (.iconst 1, 1) := by decide +kernel
theorem dX8_tear_20 : decode cX8_tear 20 = .ok (.invokevirtual 71, 3) := by decide +kernel
theorem dX8_tear_23 : decode cX8_tear 23 = .ok (.ireturn, 1) := by decide +kernel
theorem dX8_tear_24 : decode cX8_tear 24 = .ok (.aload_n 0, 1) := by decide +kernel
theorem dX8_tear_25 : decode cX8_tear 25 = .ok (.getfield 7, 3) := by decide +kernel
theorem dX8_tear_28 : decode cX8_tear 28 = .ok (.iload_n 1, 1) := by decide +kernel
theorem dX8_tear_29 : decode cX8_tear 29 = .ok (.iconst (-1), 1) := by decide +kernel
theorem dX8_tear_30 : decode cX8_tear 30 = .ok (.iastore, 1) := by decide +kernel
theorem dX8_tear_31 : decode cX8_tear 31 = .ok (.iconst 1, 1) := by decide +kernel
theorem dX8_tear_32 : decode cX8_tear 32 = .ok (.ireturn, 1) := by decide +kernel
set_option maxRecDepth 20000 in
theorem ggX8_copy_X8_isRow : GoodIn wsX8_copy wsX8_isRow := goodIn_r _ [6, 7, 8, 9, 5, 10] (by decide +kernel) (by decide +kernel)
set_option maxRecDepth 20000 in
theorem gX8_copy_X8_isRow : GoodIn wsX8_copy (va_wsS RX8 67 yX8_isRow wsX8_isRow) := goodIn_app (goodIn_of _ (by decide +kernel)) ggX8_copy_X8_isRow
set_option maxRecDepth 20000 in
theorem ggX8_copy_X8_found : GoodIn wsX8_copy wsX8_found := goodIn_r _ [14, 15, 16, 17, 18, 19, 20, 21, 22, 23, 24, 25, 26, 27, 28, 29, 30, 31, 32, 33] (by decide +kernel) (by decide +kernel)
set_option maxRecDepth 20000 in
theorem gX8_copy_X8_found : GoodIn wsX8_copy (wsV RX8 71 RX8 yX8_found wsX8_found) := goodIn_app (goodIn_of _ (by decide +kernel)) ggX8_copy_X8_found
theorem dX8_copy_0 : decode cX8_copy 0 = .ok (.iload_n 1, 1) := by decide +kernel
theorem dX8_copy_1 : decode cX8_copy 1 = .ok (.invokestatic 67, 3) := by decide +kernel
theorem dX8_copy_4 : decode cX8_copy 4 = .ok (.ifCond .eq 10, 3) := by decide +kernel
theorem dX8_copy_7 : decode cX8_copy 7 = .ok (.iload_n 3, 1) := by decide +kernel
theorem dX8_copy_8 : decode cX8_copy 8 = .ok (.invokestatic 67, 3) := by decide +kernel
theorem dX8_copy_11 : decode cX8_copy 11 = .ok (.ifCond .ne 5, 3) := by decide +kernel
theorem dX8_copy_14 : decode cX8_copy 14 = .ok (.iconst (-1), 1) := by decide +kernel
theorem dX8_copy_15 : decode cX8_copy 15 = .ok (.ireturn, 1) := by decide +kernel
theorem dX8_copy_16 : decode cX8_copy 16 = .ok (.iload 5, 2) := by decide +kernel
theorem dX8_copy_18 : decode cX8_copy 18 = .ok (.ifCond .ge 9, 3) := by decide +kernel
theorem dX8_copy_21 : decode cX8_copy 21 = .ok (.aload_n 0, 1) := by decide +kernel
theorem dX8_copy_22 : decode cX8_copy 22 = .ok (.iconst 5, 1) := by decide +kernel
theorem dX8_copy_23 : decode cX8_copy 23 = .ok (.invokevirtual 71, 3) := by decide +kernel
theorem dX8_copy_26 : decode cX8_copy 26 = .ok (.ireturn, 1) := by decide +kernel
theorem dX8_copy_27 : decode cX8_copy 27 = .ok (.aload_n 0, 1) := by decide +kernel
theorem dX8_copy_28 : decode cX8_copy 28 = .ok (.getfield 7, 3) := by decide +kernel
theorem dX8_copy_31 : decode cX8_copy 31 = .ok (.iload_n 1, 1) := by decide +kernel
theorem dX8_copy_32 : decode cX8_copy 32 = .ok (.iaload, 1) := by decide +kernel
theorem dX8_copy_33 : decode cX8_copy 33 = .ok (.ifCond .lt 12, 3) := by decide +kernel
theorem dX8_copy_36 : decode cX8_copy 36 = .ok (.aload_n 0, 1) := by decide +kernel
theorem dX8_copy_37 : decode cX8_copy 37 = .ok (.getfield 7, 3) := by decide +kernel
theorem dX8_copy_40 : decode cX8_copy 40 = .ok (.iload_n 3, 1) := by decide +kernel
theorem dX8_copy_41 : decode cX8_copy 41 = .ok (.iaload, 1) := by decide +kernel
theorem dX8_copy_42 : decode cX8_copy 42 = .ok (.ifCond .ge 9, 3) := by decide +kernel
theorem dX8_copy_45 : decode cX8_copy 45 = .ok (.aload_n 0, 1) := by decide +kernel
theorem dX8_copy_46 : decode cX8_copy 46 = .ok (.iconst 1, 1) := by decide +kernel
theorem dX8_copy_47 : decode cX8_copy 47 = .ok (.invokevirtual 71, 3) := by decide +kernel
theorem dX8_copy_50 : decode cX8_copy 50 = .ok (.ireturn, 1) := by decide +kernel
theorem dX8_copy_51 : decode cX8_copy 51 = .ok (.iload_n 2, 1) := by decide +kernel
theorem dX8_copy_52 : decode cX8_copy 52 = .ok (.ifCond .lt 43, 3) := by decide +kernel
theorem dX8_copy_55 : decode cX8_copy 55 = .ok (.iload 4, 2) := by decide +kernel
theorem dX8_copy_57 : decode cX8_copy 57 = .ok (.ifCond .lt 38, 3) := by decide +kernel
theorem dX8_copy_60 : decode cX8_copy 60 = .ok (.iload_n 2, 1) := by decide +kernel
theorem dX8_copy_61 : decode cX8_copy 61 = .ok (.i2l, 1) := by decide +kernel
theorem dX8_copy_62 : decode cX8_copy 62 = .ok (.iload 5, 2) := by decide +kernel
theorem dX8_copy_64 : decode cX8_copy 64 = .ok (.i2l, 1) := by decide +kernel
theorem dX8_copy_65 : decode cX8_copy 65 = .ok (.ladd, 1) := by decide +kernel
theorem dX8_copy_66 : decode cX8_copy 66 = .ok (.aload_n 0, 1) := by decide +kernel
theorem dX8_copy_67 : decode cX8_copy 67 = .ok (.getfield 7, 3) := by decide +kernel
theorem dX8_copy_70 : decode cX8_copy 70 = .ok (.iload_n 1, 1) := by decide +kernel
theorem dX8_copy_71 : decode cX8_copy 71 = .ok (.iaload, 1) := by decide +kernel
theorem dX8_copy_72 : decode cX8_copy 72 = .ok (.i2l, 1) := by decide +kernel
theorem dX8_copy_73 : decode cX8_copy 73 = .ok (.lcmp, 1) := by decide +kernel
theorem dX8_copy_74 : decode cX8_copy 74 = .ok (.ifCond .gt 21, 3) := by decide +kernel
theorem dX8_copy_77 : decode cX8_copy 77 = .ok (.iload 4, 2) := by decide +kernel
theorem dX8_copy_79 : decode cX8_copy 79 = .ok (.i2l, 1) := by decide +kernel
theorem dX8_copy_80 : decode cX8_copy 80 = .ok (.iload 5, 2) := by decide +kernel
theorem dX8_copy_82 : decode cX8_copy 82 = .ok (.i2l, 1) := by decide +kernel
theorem dX8_copy_83 : decode cX8_copy 83 = .ok (.ladd, 1) := by decide +kernel
theorem dX8_copy_84 : decode cX8_copy 84 = .ok (.aload_n 0, 1) := by decide +kernel
theorem dX8_copy_85 : decode cX8_copy 85 = .ok (.getfield 7, 3) := by decide +kernel
theorem dX8_copy_88 : decode cX8_copy 88 = .ok (.iload_n 3, 1) := by decide +kernel
theorem dX8_copy_89 : decode cX8_copy 89 = .ok (.iaload, 1) := by decide +kernel
theorem dX8_copy_90 : decode cX8_copy 90 = .ok (.i2l, 1) := by decide +kernel
theorem dX8_copy_91 : decode cX8_copy 91 = .ok (.lcmp, 1) := by decide +kernel
theorem dX8_copy_92 : decode cX8_copy 92 = .ok (.ifCond .le 9, 3) := by decide +kernel
theorem dX8_copy_95 : decode cX8_copy 95 = .ok (.aload_n 0, 1) := by decide +kernel
theorem dX8_copy_96 : decode cX8_copy 96 = .ok (.iconst 2, 1) := by decide +kernel
theorem dX8_copy_97 : decode cX8_copy 97 = .ok (.invokevirtual 71, 3) := by decide +kernel
theorem dX8_copy_100 : decode cX8_copy 100 = .ok (.ireturn, 1) := by decide +kernel
theorem dX8_copy_101 : decode cX8_copy 101 = .ok (.iconst 0, 1) := by decide +kernel
theorem dX8_copy_102 : decode cX8_copy 102 = .ok (.istore 6, 2) := by decide +kernel
theorem dX8_copy_104 : decode cX8_copy 104 = .ok (.iload 6, 2) := by decide +kernel
theorem dX8_copy_106 : decode cX8_copy 106 = .ok (.iload 5, 2) := by decide +kernel
theorem dX8_copy_108 : decode cX8_copy 108 = .ok (.if_icmp .ge 58, 3) := by decide +kernel
theorem dX8_copy_111 : decode cX8_copy 111 = .ok (.iload 4, 2) := by decide +kernel
theorem dX8_copy_113 : decode cX8_copy 113 = .ok (.iload_n 2, 1) := by decide +kernel
theorem dX8_copy_114 : decode cX8_copy 114 = .ok (.if_icmp .le 13, 3) := by decide +kernel
theorem dX8_copy_117 : decode cX8_copy 117 = .ok (.iload 5, 2) := by decide +kernel
theorem dX8_copy_119 : decode cX8_copy 119 = .ok (.iconst 1, 1) := by decide +kernel
theorem dX8_copy_120 : decode cX8_copy 120 = .ok (.isub, 1) := by decide +kernel
theorem dX8_copy_121 : decode cX8_copy 121 = .ok (.iload 6, 2) := by decide +kernel
theorem dX8_copy_123 : decode cX8_copy 123 = .ok (.isub, 1) := by decide +kernel
theorem dX8_copy_124 : decode cX8_copy 124 = .ok (.goto 5, 3) := by decide +kernel
theorem dX8_copy_127 : decode cX8_copy 127 = .ok (.iload 6, 2) := by decide +kernel
theorem dX8_copy_129 : decode cX8_copy 129 = .ok (.istore 7, 2) := by decide +kernel
theorem dX8_copy_131 : decode cX8_copy 131 = .ok (.aload_n 0, 1) := by decide +kernel
theorem dX8_copy_132 : decode cX8_copy 132 = .ok (.getfield 13, 3) := by decide +kernel
theorem dX8_copy_135 : decode cX8_copy 135 = .ok (.bipush 40, 2) := by decide +kernel
theorem dX8_copy_137 : decode cX8_copy 137 = .ok (.iload_n 3, 1) := by decide +kernel
theorem dX8_copy_138 : decode cX8_copy 138 = .ok (.imul, 1) := by decide +kernel
theorem dX8_copy_139 : decode cX8_copy 139 = .ok (.iload 4, 2) := by decide +kernel
theorem dX8_copy_141 : decode cX8_copy 141 = .ok (.iadd, 1) := by decide +kernel
theorem dX8_copy_142 : decode cX8_copy 142 = .ok (.iload 7, 2) := by decide +kernel
theorem dX8_copy_144 : decode cX8_copy 144 = .ok (.iadd, 1) := by decide +kernel
theorem dX8_copy_145 : decode cX8_copy 145 = .ok (.aload_n 0, 1) := by decide +kernel
theorem dX8_copy_146 : decode cX8_copy 146 = .ok (.getfield 13, 3) := by decide +kernel
theorem dX8_copy_149 : decode cX8_copy 149 = .ok (.bipush 40, 2) := by decide +kernel
theorem dX8_copy_151 : decode cX8_copy 151 = .ok (.iload_n 1, 1) := by decide +kernel
theorem dX8_copy_152 : decode cX8_copy 152 = .ok (.imul, 1) := by decide +kernel
theorem dX8_copy_153 : decode cX8_copy 153 = .ok (.iload_n 2, 1) := by decide +kernel
theorem dX8_copy_154 : decode cX8_copy 154 = .ok (.iadd, 1) := by decide +kernel
theorem dX8_copy_155 : decode cX8_copy 155 = .ok (.iload 7, 2) := by decide +kernel
theorem dX8_copy_157 : decode cX8_copy 157 = .ok (.iadd, 1) := by decide +kernel
theorem dX8_copy_158 : decode cX8_copy 158 = .ok (.iaload, 1) := by decide +kernel
theorem dX8_copy_159 : decode cX8_copy 159 = .ok (.iastore, 1) := by decide +kernel
theorem dX8_copy_160 : decode cX8_copy 160 = .ok (.iinc 6 1, 3) := by decide +kernel
theorem dX8_copy_163 : decode cX8_copy 163 = .ok (.goto (-59), 3) := by decide +kernel
theorem dX8_copy_166 : decode cX8_copy 166 = .ok (.iconst 1, 1) := by decide +kernel
theorem dX8_copy_167 : decode cX8_copy 167 = .ok (.ireturn, 1) := by decide +kernel
set_option maxRecDepth 20000 in
theorem ggX8_mean_X8_isRow : GoodIn wsX8_mean wsX8_isRow := goodIn_r _ [6, 7, 8, 9, 5, 10] (by decide +kernel) (by decide +kernel)
set_option maxRecDepth 20000 in
theorem gX8_mean_X8_isRow : GoodIn wsX8_mean (va_wsS RX8 67 yX8_isRow wsX8_isRow) := goodIn_app (goodIn_of _ (by decide +kernel)) ggX8_mean_X8_isRow
set_option maxRecDepth 20000 in
theorem ggX8_mean_X8_found : GoodIn wsX8_mean wsX8_found := goodIn_r _ [14, 15, 16, 22, 23, 24, 25, 26, 27, 28, 29, 30, 31, 32, 33, 34, 35, 36, 37, 38] (by decide +kernel) (by decide +kernel)
set_option maxRecDepth 20000 in
theorem gX8_mean_X8_found : GoodIn wsX8_mean (wsV RX8 71 RX8 yX8_found wsX8_found) := goodIn_app (goodIn_of _ (by decide +kernel)) ggX8_mean_X8_found
set_option maxRecDepth 20000 in
theorem ggX8_mean_X8_tell : GoodIn wsX8_mean wsX8_tell := goodIn_r _ [20, 21, 22, 23, 24, 25, 26, 27, 28, 29, 30, 31, 32, 33, 34, 35, 36, 37, 38] (by decide +kernel) (by decide +kernel)
set_option maxRecDepth 20000 in
theorem gX8_mean_X8_tell : GoodIn wsX8_mean (wsV RX8 75 RX8 yX8_tell wsX8_tell) := goodIn_app (goodIn_of _ (by decide +kernel)) ggX8_mean_X8_tell
theorem dX8_mean_0 : decode cX8_mean 0 = .ok (.iload_n 1, 1) := by decide +kernel
theorem dX8_mean_1 : decode cX8_mean 1 = .ok (.invokestatic 67, 3) := by decide +kernel
theorem dX8_mean_4 : decode cX8_mean 4 = .ok (.ifCond .ne 5, 3) := by decide +kernel
theorem dX8_mean_7 : decode cX8_mean 7 = .ok (.iconst (-1), 1) := by decide +kernel
theorem dX8_mean_8 : decode cX8_mean 8 = .ok (.ireturn, 1) := by decide +kernel
theorem dX8_mean_9 : decode cX8_mean 9 = .ok (.aload_n 0, 1) := by decide +kernel
theorem dX8_mean_10 : decode cX8_mean 10 = .ok (.getfield 7, 3) := by decide +kernel
theorem dX8_mean_13 : decode cX8_mean 13 = .ok (.iload_n 1, 1) := by decide +kernel
theorem dX8_mean_14 : decode cX8_mean 14 = .ok (.iaload, 1) := by decide +kernel
theorem dX8_mean_15 : decode cX8_mean 15 = .ok (.ifCond .ge 9, 3) := by decide +kernel
theorem dX8_mean_18 : decode cX8_mean 18 = .ok (.aload_n 0, 1) := by decide +kernel
theorem dX8_mean_19 : decode cX8_mean 19 = .ok (.iconst 1, 1) := by decide +kernel
theorem dX8_mean_20 : decode cX8_mean 20 = .ok (.invokevirtual 71, 3) := by decide +kernel
theorem dX8_mean_23 : decode cX8_mean 23 = .ok (.ireturn, 1) := by decide +kernel
theorem dX8_mean_24 : decode cX8_mean 24 = .ok (.aload_n 0, 1) := by decide +kernel
theorem dX8_mean_25 : decode cX8_mean 25 = .ok (.getfield 7, 3) := by decide +kernel
theorem dX8_mean_28 : decode cX8_mean 28 = .ok (.iload_n 1, 1) := by decide +kernel
theorem dX8_mean_29 : decode cX8_mean 29 = .ok (.iaload, 1) := by decide +kernel
theorem dX8_mean_30 : decode cX8_mean 30 = .ok (.ifCond .ne 9, 3) := by decide +kernel
theorem dX8_mean_33 : decode cX8_mean 33 = .ok (.aload_n 0, 1) := by decide +kernel
theorem dX8_mean_34 : decode cX8_mean 34 = .ok (.iconst 4, 1) := by decide +kernel
theorem dX8_mean_35 : decode cX8_mean 35 = .ok (.invokevirtual 71, 3) := by decide +kernel
theorem dX8_mean_38 : decode cX8_mean 38 = .ok (.ireturn, 1) := by decide +kernel
theorem dX8_mean_39 : decode cX8_mean 39 = .ok (.lconst 0, 1) := by decide +kernel
theorem dX8_mean_40 : decode cX8_mean 40 = .ok (.lstore_n 2, 1) := by decide +kernel
theorem dX8_mean_41 : decode cX8_mean 41 = .ok (.iconst 0, 1) := by decide +kernel
theorem dX8_mean_42 : decode cX8_mean 42 = .ok (.istore 4, 2) := by decide +kernel
theorem dX8_mean_44 : decode cX8_mean 44 = .ok (.iload 4, 2) := by decide +kernel
theorem dX8_mean_46 : decode cX8_mean 46 = .ok (.aload_n 0, 1) := by decide +kernel
theorem dX8_mean_47 : decode cX8_mean 47 = .ok (.getfield 7, 3) := by decide +kernel
theorem dX8_mean_50 : decode cX8_mean 50 = .ok (.iload_n 1, 1) := by decide +kernel
theorem dX8_mean_51 : decode cX8_mean 51 = .ok (.iaload, 1) := by decide +kernel
theorem dX8_mean_52 : decode cX8_mean 52 = .ok (.if_icmp .ge 25, 3) := by decide +kernel
theorem dX8_mean_55 : decode cX8_mean 55 = .ok (.lload_n 2, 1) := by decide +kernel
theorem dX8_mean_56 : decode cX8_mean 56 = .ok (.aload_n 0, 1) := by decide +kernel
theorem dX8_mean_57 : decode cX8_mean 57 = .ok (.getfield 13, 3) := by decide +kernel
theorem dX8_mean_60 : decode cX8_mean 60 = .ok (.bipush 40, 2) := by decide +kernel
theorem dX8_mean_62 : decode cX8_mean 62 = .ok (.iload_n 1, 1) := by decide +kernel
theorem dX8_mean_63 : decode cX8_mean 63 = .ok (.imul, 1) := by decide +kernel
theorem dX8_mean_64 : decode cX8_mean 64 = .ok (.iload 4, 2) := by decide +kernel
theorem dX8_mean_66 : decode cX8_mean 66 = .ok (.iadd, 1) := by decide +kernel
theorem dX8_mean_67 : decode cX8_mean 67 = .ok (.iaload, 1) := by decide +kernel
theorem dX8_mean_68 : decode cX8_mean 68 = .ok (.i2l, 1) := by decide +kernel
theorem dX8_mean_69 : decode cX8_mean 69 = .ok (.ladd, 1) := by decide +kernel
theorem dX8_mean_70 : decode cX8_mean 70 = .ok (.lstore_n 2, 1) := by decide +kernel
theorem dX8_mean_71 : decode cX8_mean 71 = .ok (.iinc 4 1, 3) := by decide +kernel
theorem dX8_mean_74 : decode cX8_mean 74 = .ok (.goto (-30), 3) := by decide +kernel
theorem dX8_mean_77 : decode cX8_mean 77 = .ok (.aload_n 0, 1) := by decide +kernel
theorem dX8_mean_78 : decode cX8_mean 78 = .ok (.lload_n 2, 1) := by decide +kernel
theorem dX8_mean_79 : decode cX8_mean 79 = .ok (.aload_n 0, 1) := by decide +kernel
theorem dX8_mean_80 : decode cX8_mean 80 = .ok (.getfield 7, 3) := by decide +kernel
theorem dX8_mean_83 : decode cX8_mean 83 = .ok (.iload_n 1, 1) := by decide +kernel
theorem dX8_mean_84 : decode cX8_mean 84 = .ok (.iaload, 1) := by decide +kernel
theorem dX8_mean_85 : decode cX8_mean 85 = .ok (.i2l, 1) := by decide +kernel
theorem dX8_mean_86 : decode cX8_mean 86 = .ok (.ldiv, 1) := by decide +kernel
theorem dX8_mean_87 : decode cX8_mean 87 = .ok (.l2i, 1) := by decide +kernel
theorem dX8_mean_88 : decode cX8_mean 88 = .ok (.invokevirtual 75, 3) := by decide +kernel
theorem dX8_mean_91 : decode cX8_mean 91 = .ok (.ireturn, 1) := by decide +kernel
set_option maxRecDepth 20000 in
theorem ggX8_text_X8_isText : GoodIn wsX8_text wsX8_isText := goodIn_r _ [6, 7, 8, 9, 5, 10] (by decide +kernel) (by decide +kernel)
set_option maxRecDepth 20000 in
theorem gX8_text_X8_isText : GoodIn wsX8_text (va_wsS RX8 78 yX8_isText wsX8_isText) := goodIn_app (goodIn_of _ (by decide +kernel)) ggX8_text_X8_isText
set_option maxRecDepth 20000 in
theorem ggX8_text_X8_found : GoodIn wsX8_text wsX8_found := goodIn_r _ [14, 15, 16, 17, 18, 19, 20, 21, 22, 23, 24, 25, 26, 27, 28, 29, 30, 31, 32, 33] (by decide +kernel) (by decide +kernel)
set_option maxRecDepth 20000 in
theorem gX8_text_X8_found : GoodIn wsX8_text (wsV RX8 71 RX8 yX8_found wsX8_found) := goodIn_app (goodIn_of _ (by decide +kernel)) ggX8_text_X8_found
theorem dX8_text_0 : decode cX8_text 0 = .ok (.iload_n 1, 1) := by decide +kernel
theorem dX8_text_1 : decode cX8_text 1 = .ok (.invokestatic 78, 3) := by decide +kernel
theorem dX8_text_4 : decode cX8_text 4 = .ok (.ifCond .eq 9, 3) := by decide +kernel
theorem dX8_text_7 : decode cX8_text 7 = .ok (.iload_n 2, 1) := by decide +kernel
theorem dX8_text_8 : decode cX8_text 8 = .ok (.bipush 80, 2) := by decide +kernel
theorem dX8_text_10 : decode cX8_text 10 = .ok (.if_icmp .le 5, 3) := by decide +kernel
theorem dX8_text_13 : decode cX8_text 13 = .ok (.iconst (-1), 1) := by decide +kernel
theorem dX8_text_14 : decode cX8_text 14 = .ok (.ireturn, 1) := by decide +kernel
theorem dX8_text_15 : decode cX8_text 15 = .ok (.iload_n 2, 1) := by decide +kernel
theorem dX8_text_16 : decode cX8_text 16 = .ok (.ifCond .ge 9, 3) := by decide +kernel
theorem dX8_text_19 : decode cX8_text 19 = .ok (.aload_n 0, 1) := by decide +kernel
theorem dX8_text_20 : decode cX8_text 20 = .ok (.iconst 5, 1) := by decide +kernel
theorem dX8_text_21 : decode cX8_text 21 = .ok (.invokevirtual 71, 3) := by decide +kernel
theorem dX8_text_24 : decode cX8_text 24 = .ok (.ireturn, 1) := by decide +kernel
theorem dX8_text_25 : decode cX8_text 25 = .ok (.aload_n 0, 1) := by decide +kernel
theorem dX8_text_26 : decode cX8_text 26 = .ok (.getfield 16, 3) := by decide +kernel
theorem dX8_text_29 : decode cX8_text 29 = .ok (.iload_n 1, 1) := by decide +kernel
theorem dX8_text_30 : decode cX8_text 30 = .ok (.iload_n 2, 1) := by decide +kernel
theorem dX8_text_31 : decode cX8_text 31 = .ok (.iastore, 1) := by decide +kernel
theorem dX8_text_32 : decode cX8_text 32 = .ok (.iconst 0, 1) := by decide +kernel
theorem dX8_text_33 : decode cX8_text 33 = .ok (.istore_n 3, 1) := by decide +kernel
theorem dX8_text_34 : decode cX8_text 34 = .ok (.iload_n 3, 1) := by decide +kernel
theorem dX8_text_35 : decode cX8_text 35 = .ok (.bipush 80, 2) := by decide +kernel
theorem dX8_text_37 : decode cX8_text 37 = .ok (.if_icmp .ge 22, 3) := by decide +kernel
theorem dX8_text_40 : decode cX8_text 40 = .ok (.aload_n 0, 1) := by decide +kernel
theorem dX8_text_41 : decode cX8_text 41 = .ok (.getfield 19, 3) := by decide +kernel
theorem dX8_text_44 : decode cX8_text 44 = .ok (.bipush 80, 2) := by decide +kernel
theorem dX8_text_46 : decode cX8_text 46 = .ok (.iload_n 1, 1) := by decide +kernel
theorem dX8_text_47 : decode cX8_text 47 = .ok (.imul, 1) := by decide +kernel
theorem dX8_text_48 : decode cX8_text 48 = .ok (.iload_n 3, 1) := by decide +kernel
theorem dX8_text_49 : decode cX8_text 49 = .ok (.iadd, 1) := by decide +kernel
theorem dX8_text_50 : decode cX8_text 50 = .ok (.bipush 32, 2) := by decide +kernel
theorem dX8_text_52 : decode cX8_text 52 = .ok (.iastore, 1) := by decide +kernel
theorem dX8_text_53 : decode cX8_text 53 = .ok (.iinc 3 1, 3) := by decide +kernel
theorem dX8_text_56 : decode cX8_text 56 = .ok (.goto (-22), 3) := by decide +kernel
theorem dX8_text_59 : decode cX8_text 59 = .ok (.iload_n 2, 1) := by decide +kernel
theorem dX8_text_60 : decode cX8_text 60 = .ok (.ireturn, 1) := by decide +kernel
set_option maxRecDepth 20000 in
theorem ggX8_put_X8_isText : GoodIn wsX8_put wsX8_isText := goodIn_r _ [6, 7, 8, 9, 5, 10] (by decide +kernel) (by decide +kernel)
set_option maxRecDepth 20000 in
theorem gX8_put_X8_isText : GoodIn wsX8_put (va_wsS RX8 78 yX8_isText wsX8_isText) := goodIn_app (goodIn_of _ (by decide +kernel)) ggX8_put_X8_isText
set_option maxRecDepth 20000 in
theorem ggX8_put_X8_found : GoodIn wsX8_put wsX8_found := goodIn_r _ [14, 15, 16, 17, 18, 19, 20, 21, 22, 23, 24, 25, 26, 27, 28, 29, 30, 31, 32, 33] (by decide +kernel) (by decide +kernel)
set_option maxRecDepth 20000 in
theorem gX8_put_X8_found : GoodIn wsX8_put (wsV RX8 71 RX8 yX8_found wsX8_found) := goodIn_app (goodIn_of _ (by decide +kernel)) ggX8_put_X8_found
set_option maxRecDepth 20000 in
theorem ggX8_put_X8_in : GoodIn wsX8_put wsX8_in := goodIn_r _ [10] (by decide +kernel) (by decide +kernel)
set_option maxRecDepth 20000 in
theorem gX8_put_X8_in : GoodIn wsX8_put (va_wsS RX8 61 yX8_in wsX8_in) := goodIn_app (goodIn_of _ (by decide +kernel)) ggX8_put_X8_in
theorem dX8_put_0 : decode cX8_put 0 = .ok (.iload_n 1, 1) := by decide +kernel
theorem dX8_put_1 : decode cX8_put 1 = .ok (.invokestatic 78, 3) := by decide +kernel
theorem dX8_put_4 : decode cX8_put 4 = .ok (.ifCond .ne 5, 3) := by decide +kernel
theorem dX8_put_7 : decode cX8_put 7 = .ok (.iconst (-1), 1) := by decide +kernel
theorem dX8_put_8 : decode cX8_put 8 = .ok (.ireturn, 1) := by decide +kernel
theorem dX8_put_9 : decode cX8_put 9 = .ok (.aload_n 0, 1) := by decide +kernel
theorem dX8_put_10 : decode cX8_put 10 = .ok (.getfield 16, 3) := by decide +kernel
theorem dX8_put_13 : decode cX8_put 13 = .ok (.iload_n 1, 1) := by decide +kernel
theorem dX8_put_14 : decode cX8_put 14 = .ok (.iaload, 1) := by decide +kernel
theorem dX8_put_15 : decode cX8_put 15 = .ok (.ifCond .ge 9, 3) := by decide +kernel
theorem dX8_put_18 : decode cX8_put 18 = .ok (.aload_n 0, 1) := by decide +kernel
theorem dX8_put_19 : decode cX8_put 19 = .ok (.iconst 1, 1) := by decide +kernel
theorem dX8_put_20 : decode cX8_put 20 = .ok (.invokevirtual 71, 3) := by decide +kernel
theorem dX8_put_23 : decode cX8_put 23 = .ok (.ireturn, 1) := by decide +kernel
theorem dX8_put_24 : decode cX8_put 24 = .ok (.iload_n 2, 1) := by decide +kernel
theorem dX8_put_25 : decode cX8_put 25 = .ok (.i2l, 1) := by decide +kernel
theorem dX8_put_26 : decode cX8_put 26 = .ok (.lconst 0, 1) := by decide +kernel
theorem dX8_put_27 : decode cX8_put 27 = .ok (.aload_n 0, 1) := by decide +kernel
theorem dX8_put_28 : decode cX8_put 28 = .ok (.getfield 16, 3) := by decide +kernel
theorem dX8_put_31 : decode cX8_put 31 = .ok (.iload_n 1, 1) := by decide +kernel
theorem dX8_put_32 : decode cX8_put 32 = .ok (.iaload, 1) := by decide +kernel
theorem dX8_put_33 : decode cX8_put 33 = .ok (.iconst 1, 1) := by decide +kernel
theorem dX8_put_34 : decode cX8_put 34 = .ok (.isub, 1) := by decide +kernel
theorem dX8_put_35 : decode cX8_put 35 = .ok (.i2l, 1) := by decide +kernel
theorem dX8_put_36 : decode cX8_put 36 = .ok (.invokestatic 61, 3) := by decide +kernel
theorem dX8_put_39 : decode cX8_put 39 = .ok (.ifCond .ne 9, 3) := by decide +kernel
theorem dX8_put_42 : decode cX8_put 42 = .ok (.aload_n 0, 1) := by decide +kernel
theorem dX8_put_43 : decode cX8_put 43 = .ok (.iconst 2, 1) := by decide +kernel
theorem dX8_put_44 : decode cX8_put 44 = .ok (.invokevirtual 71, 3) := by decide +kernel
theorem dX8_put_47 : decode cX8_put 47 = .ok (.ireturn, 1) := by decide +kernel
theorem dX8_put_48 : decode cX8_put 48 = .ok (.aload_n 0, 1) := by decide +kernel
theorem dX8_put_49 : decode cX8_put 49 = .ok (.getfield 19, 3) := by decide +kernel
theorem dX8_put_52 : decode cX8_put 52 = .ok (.bipush 80, 2) := by decide +kernel
theorem dX8_put_54 : decode cX8_put 54 = .ok (.iload_n 1, 1) := by decide +kernel
theorem dX8_put_55 : decode cX8_put 55 = .ok (.imul, 1) := by decide +kernel
theorem dX8_put_56 : decode cX8_put 56 = .ok (.iload_n 2, 1) := by decide +kernel
theorem dX8_put_57 : decode cX8_put 57 = .ok (.iadd, 1) := by decide +kernel
theorem dX8_put_58 : decode cX8_put 58 = .ok (.iaload, 1) := by decide +kernel
theorem dX8_put_59 : decode cX8_put 59 = .ok (.istore 4, 2) := by decide +kernel
theorem dX8_put_61 : decode cX8_put 61 = .ok (.aload_n 0, 1) := by decide +kernel
theorem dX8_put_62 : decode cX8_put 62 = .ok (.getfield 19, 3) := by decide +kernel
theorem dX8_put_65 : decode cX8_put 65 = .ok (.bipush 80, 2) := by decide +kernel
theorem dX8_put_67 : decode cX8_put 67 = .ok (.iload_n 1, 1) := by decide +kernel
theorem dX8_put_68 : decode cX8_put 68 = .ok (.imul, 1) := by decide +kernel
theorem dX8_put_69 : decode cX8_put 69 = .ok (.iload_n 2, 1) := by decide +kernel
theorem dX8_put_70 : decode cX8_put 70 = .ok (.iadd, 1) := by decide +kernel
theorem dX8_put_71 : decode cX8_put 71 = .ok (.iload_n 3, 1) := by decide +kernel
theorem dX8_put_72 : decode cX8_put 72 = .ok (.i2b, 1) := by decide +kernel
theorem dX8_put_73 : decode cX8_put 73 = .ok (.iastore, 1) := by decide +kernel
theorem dX8_put_74 : decode cX8_put 74 = .ok (.iload 4, 2) := by decide +kernel
theorem dX8_put_76 : decode cX8_put 76 = .ok (.sipush 1000, 3) := by decide +kernel
theorem dX8_put_79 : decode cX8_put 79 = .ok (.iadd, 1) := by decide +kernel
theorem dX8_put_80 : decode cX8_put 80 = .ok (.ireturn, 1) := by decide +kernel
theorem dX8_byteAt_0 : decode cX8_byteAt 0 = .ok (.aload_n 0, 1) := by decide +kernel
theorem dX8_byteAt_1 : decode cX8_byteAt 1 = .ok (.getfield 81, 3) := by decide +kernel
theorem dX8_byteAt_4 : decode cX8_byteAt 4 = .ok (.aload_n 0, 1) := by decide +kernel
theorem dX8_byteAt_5 : decode cX8_byteAt 5 = .ok (.getfield 16, 3) := by decide +kernel
theorem dX8_byteAt_8 : decode cX8_byteAt 8 = .ok (.iload_n 1, 1) := by decide +kernel
theorem dX8_byteAt_9 : decode cX8_byteAt 9 = .ok (.iaload, 1) := by decide +kernel
theorem dX8_byteAt_10 : decode cX8_byteAt 10 = .ok (.if_icmp .ge 20, 3) := by decide +kernel
theorem dX8_byteAt_13 : decode cX8_byteAt 13 = .ok (.aload_n 0, 1) := by decide +kernel
theorem dX8_byteAt_14 : decode cX8_byteAt 14 = .ok (.getfield 19, 3) := by decide +kernel
theorem dX8_byteAt_17 : decode cX8_byteAt 17 = .ok (.bipush 80, 2) := by decide +kernel
theorem dX8_byteAt_19 : decode cX8_byteAt 19 = .ok (.iload_n 1, 1) := by decide +kernel
theorem dX8_byteAt_20 : decode cX8_byteAt 20 = .ok (.imul, 1) := by decide +kernel
theorem dX8_byteAt_21 : decode cX8_byteAt 21 = .ok (.aload_n 0, 1) := by decide +kernel
theorem dX8_byteAt_22 : decode cX8_byteAt 22 = .ok (.getfield 81, 3) := by decide +kernel
theorem dX8_byteAt_25 : decode cX8_byteAt 25 = .ok (.iadd, 1) := by decide +kernel
theorem dX8_byteAt_26 : decode cX8_byteAt 26 = .ok (.iaload, 1) := by decide +kernel
theorem dX8_byteAt_27 : decode cX8_byteAt 27 = .ok (.goto 6, 3) := by decide +kernel
theorem dX8_byteAt_30 : decode cX8_byteAt 30 = .ok (.sipush (-1000), 3) := by decide +kernel
theorem dX8_byteAt_33 : decode cX8_byteAt 33 = .ok (.ireturn, 1) := by decide +kernel
set_option maxRecDepth 20000 in
theorem ggX8_takes_X8_byteAt : GoodIn wsX8_takes wsX8_byteAt := goodIn_r _ [7, 2, 8, 9, 13, 14, 15, 16, 17, 18, 19, 20, 21, 22, 23, 24, 25, 26, 27, 28, 29] (by decide +kernel) (by decide +kernel)
set_option maxRecDepth 20000 in
theorem gX8_takes_X8_byteAt : GoodIn wsX8_takes (wsV RX8 84 RX8 yX8_byteAt wsX8_byteAt) := goodIn_app (goodIn_of _ (by decide +kernel)) ggX8_takes_X8_byteAt
set_option maxRecDepth 20000 in
theorem ggX8_takes_X8_in : GoodIn wsX8_takes wsX8_in := goodIn_r _ [12] (by decide +kernel) (by decide +kernel)
set_option maxRecDepth 20000 in
theorem gX8_takes_X8_in : GoodIn wsX8_takes (va_wsS RX8 61 yX8_in wsX8_in) := goodIn_app (goodIn_of _ (by decide +kernel)) ggX8_takes_X8_in
theorem dX8_takes_0 : decode cX8_takes 0 = .ok (.aload_n 0, 1) := by decide +kernel
theorem dX8_takes_1 : decode cX8_takes 1 = .ok (.iload_n 1, 1) := by decide +kernel
theorem dX8_takes_2 : decode cX8_takes 2 = .ok (.invokevirtual 84, 3) := by decide +kernel
theorem dX8_takes_5 : decode cX8_takes 5 = .ok (.bipush 48, 2) := by decide +kernel
theorem dX8_takes_7 : decode cX8_takes 7 = .ok (.isub, 1) := by decide +kernel
theorem dX8_takes_8 : decode cX8_takes 8 = .ok (.istore 5, 2) := by decide +kernel
theorem dX8_takes_10 : decode cX8_takes 10 = .ok (.iload 5, 2) := by decide +kernel
theorem dX8_takes_12 : decode cX8_takes 12 = .ok (.i2l, 1) := by decide +kernel
theorem dX8_takes_13 : decode cX8_takes 13 = .ok (.iload_n 3, 1) := by decide +kernel
theorem dX8_takes_14 : decode cX8_takes 14 = .ok (.i2l, 1) := by decide +kernel
theorem dX8_takes_15 : decode cX8_takes 15 = .ok (.iload 4, 2) := by decide +kernel
theorem dX8_takes_17 : decode cX8_takes 17 = .ok (.i2l, 1) := by decide +kernel
theorem dX8_takes_18 : decode cX8_takes 18 = .ok (.invokestatic 61, 3) := by decide +kernel
theorem dX8_takes_21 : decode cX8_takes 21 = .ok (.ifCond .ne 5, 3) := by decide +kernel
theorem dX8_takes_24 : decode cX8_takes 24 = .ok (.iconst 0, 1) := by decide +kernel
theorem dX8_takes_25 : decode cX8_takes 25 = .ok (.ireturn, 1) := by decide +kernel
theorem dX8_takes_26 : decode cX8_takes 26 = .ok (.aload_n 0, 1) := by decide +kernel
theorem dX8_takes_27 : decode cX8_takes 27 = .ok (.getfield 39, 3) := by decide +kernel
theorem dX8_takes_30 : decode cX8_takes 30 = .ok (.iload_n 2, 1) := by decide +kernel
theorem dX8_takes_31 : decode cX8_takes 31 = .ok (.iload 5, 2) := by decide +kernel
theorem dX8_takes_33 : decode cX8_takes 33 = .ok (.iastore, 1) := by decide +kernel
theorem dX8_takes_34 : decode cX8_takes 34 = .ok (.aload_n 0, 1) := by decide +kernel
theorem dX8_takes_35 : decode cX8_takes 35 = .ok (.dup, 1) := by decide +kernel
theorem dX8_takes_36 : decode cX8_takes 36 = .ok (.getfield 81, 3) := by decide +kernel
theorem dX8_takes_39 : decode cX8_takes 39 = .ok (.iconst 1, 1) := by decide +kernel
theorem dX8_takes_40 : decode cX8_takes 40 = .ok (.iadd, 1) := by decide +kernel
theorem dX8_takes_41 : decode cX8_takes 41 = .ok (.putfield 81, 3) := by decide +kernel
theorem dX8_takes_44 : decode cX8_takes 44 = .ok (.iconst 1, 1) := by decide +kernel
theorem dX8_takes_45 : decode cX8_takes 45 = .ok (.ireturn, 1) := by decide +kernel
theorem dX8_kindOf_0 : decode cX8_kindOf 0 = .ok (.iload_n 0, 1) := by decide +kernel
theorem dX8_kindOf_1 : decode cX8_kindOf 1 = .ok (.bipush 115, 2) := by decide +kernel
theorem dX8_kindOf_3 : decode cX8_kindOf 3 = .ok (.if_icmp .ne 7, 3) := by decide +kernel
theorem dX8_kindOf_6 : decode cX8_kindOf 6 = .ok (.iconst 0, 1) := by decide +kernel
theorem dX8_kindOf_7 : decode cX8_kindOf 7 = .ok (.goto 54, 3) := by decide +kernel
theorem dX8_kindOf_10 : decode cX8_kindOf 10 = .ok (.iload_n 0, 1) := by decide +kernel
theorem dX8_kindOf_11 : decode cX8_kindOf 11 = .ok (.bipush 111, 2) := by decide +kernel
theorem dX8_kindOf_13 : decode cX8_kindOf 13 = .ok (.if_icmp .ne 7, 3) := by decide +kernel
theorem dX8_kindOf_16 : decode cX8_kindOf 16 = .ok (.iconst 1, 1) := by decide +kernel
theorem dX8_kindOf_17 : decode cX8_kindOf 17 = .ok (.goto 44, 3) := by decide +kernel
theorem dX8_kindOf_20 : decode cX8_kindOf 20 = .ok (.iload_n 0, 1) := by decide +kernel
theorem dX8_kindOf_21 : decode cX8_kindOf 21 = .ok (.bipush 116, 2) := by decide +kernel
theorem dX8_kindOf_23 : decode cX8_kindOf 23 = .ok (.if_icmp .ne 7, 3) := by decide +kernel
theorem dX8_kindOf_26 : decode cX8_kindOf 26 = .ok (.iconst 2, 1) := by decide +kernel
theorem dX8_kindOf_27 : decode cX8_kindOf 27 = .ok (.goto 34, 3) := by decide +kernel
theorem dX8_kindOf_30 : decode cX8_kindOf 30 = .ok (.iload_n 0, 1) := by decide +kernel
theorem dX8_kindOf_31 : decode cX8_kindOf 31 = .ok (.bipush 112, 2) := by decide +kernel
theorem dX8_kindOf_33 : decode cX8_kindOf 33 = .ok (.if_icmp .ne 7, 3) := by decide +kernel
theorem dX8_kindOf_36 : decode cX8_kindOf 36 = .ok (.iconst 3, 1) := by decide +kernel
theorem dX8_kindOf_37 : decode cX8_kindOf 37 = .ok (.goto 24, 3) := by decide +kernel
theorem dX8_kindOf_40 : decode cX8_kindOf 40 = .ok (.iload_n 0, 1) := by decide +kernel
theorem dX8_kindOf_41 : decode cX8_kindOf 41 = .ok (.bipush 121, 2) := by decide +kernel
theorem dX8_kindOf_43 : decode cX8_kindOf 43 = .ok (.if_icmp .ne 7, 3) := by decide +kernel
theorem dX8_kindOf_46 : decode cX8_kindOf 46 = .ok (.iconst 4, 1) := by decide +kernel
theorem dX8_kindOf_47 : decode cX8_kindOf 47 = .ok (.goto 14, 3) := by decide +kernel
theorem dX8_kindOf_50 : decode cX8_kindOf 50 = .ok (.iload_n 0, 1) := by decide +kernel
theorem dX8_kindOf_51 : decode cX8_kindOf 51 = .ok (.bipush 99, 2) := by decide +kernel
theorem dX8_kindOf_53 : decode cX8_kindOf 53 = .ok (.if_icmp .ne 7, 3) := by decide +kernel
theorem dX8_kindOf_56 : decode cX8_kindOf 56 = .ok (.iconst 5, 1) := by decide +kernel
theorem dX8_kindOf_57 : decode cX8_kindOf 57 = .ok (.goto 4, 3) := by decide +kernel
theorem dX8_kindOf_60 : decode cX8_kindOf 60 = .ok (.iconst (-1), 1) := by decide +kernel
theorem dX8_kindOf_61 : decode cX8_kindOf 61 = .ok (.ireturn, 1) := by decide +kernel
set_option maxRecDepth 20000 in
theorem ggX8_takesSaying_X8_byteAt : GoodIn wsX8_takesSaying wsX8_byteAt := goodIn_r _ [7, 2, 8, 9, 20, 21, 22, 23, 24, 25, 26, 27, 28, 29, 30, 31, 32, 33, 34, 35, 36] (by decide +kernel) (by decide +kernel)
set_option maxRecDepth 20000 in
theorem gX8_takesSaying_X8_byteAt : GoodIn wsX8_takesSaying (wsV RX8 84 RX8 yX8_byteAt wsX8_byteAt) := goodIn_app (goodIn_of _ (by decide +kernel)) ggX8_takesSaying_X8_byteAt
set_option maxRecDepth 20000 in
theorem ggX8_takesSaying_X8_kindOf : GoodIn wsX8_takesSaying wsX8_kindOf := goodIn_r _ [12] (by decide +kernel) (by decide +kernel)
set_option maxRecDepth 20000 in
theorem gX8_takesSaying_X8_kindOf : GoodIn wsX8_takesSaying (va_wsS RX8 87 yX8_kindOf wsX8_kindOf) := goodIn_app (goodIn_of _ (by decide +kernel)) ggX8_takesSaying_X8_kindOf
set_option maxRecDepth 20000 in
theorem ggX8_takesSaying_X8_takes : GoodIn wsX8_takesSaying wsX8_takes := goodIn_r _ [16, 1, 2, 3, 4, 5, 6, 7, 8, 9, 17, 18, 19, 20, 21, 22, 23, 24, 25, 26, 27, 28, 29, 30, 31, 32, 33, 34, 35, 36] (by decide +kernel) (by decide +kernel)
set_option maxRecDepth 20000 in
theorem gX8_takesSaying_X8_takes : GoodIn wsX8_takesSaying (wsV RX8 90 RX8 yX8_takes wsX8_takes) := goodIn_app (goodIn_of _ (by decide +kernel)) ggX8_takesSaying_X8_takes
set_option maxRecDepth 20000 in
theorem ggX8_takesSaying_X8_in : GoodIn wsX8_takesSaying wsX8_in := goodIn_r _ [19] (by decide +kernel) (by decide +kernel)
set_option maxRecDepth 20000 in
theorem gX8_takesSaying_X8_in : GoodIn wsX8_takesSaying (va_wsS RX8 61 yX8_in wsX8_in) := goodIn_app (goodIn_of _ (by decide +kernel)) ggX8_takesSaying_X8_in
theorem dX8_takesSaying_0 : decode cX8_takesSaying 0 = .ok (.aload_n 0, 1) := by decide +kernel
theorem dX8_takesSaying_1 : decode cX8_takesSaying 1 = .ok (.getfield 39, 3) := by decide +kernel
theorem dX8_takesSaying_4 : decode cX8_takesSaying 4 = .ok (.iconst 0, 1) := by decide +kernel
theorem dX8_takesSaying_5 : decode cX8_takesSaying 5 = .ok (.iaload, 1) := by decide +kernel
theorem dX8_takesSaying_6 : decode cX8_takesSaying 6 = .ok (.istore_n 2, 1) := by decide +kernel
theorem dX8_takesSaying_7 : decode cX8_takesSaying 7 = .ok (.aload_n 0, 1) := by decide +kernel
theorem dX8_takesSaying_8 : decode cX8_takesSaying 8 = .ok (.iload_n 1, 1) := by decide +kernel
theorem dX8_takesSaying_9 : decode cX8_takesSaying 9 = .ok (.invokevirtual 84, 3) := by decide +kernel
theorem dX8_takesSaying_12 : decode cX8_takesSaying 12 = .ok (.invokestatic 87, 3) := by decide +kernel
theorem dX8_takesSaying_15 : decode cX8_takesSaying 15 = .ok (.istore_n 3, 1) := by decide +kernel
theorem dX8_takesSaying_16 : decode cX8_takesSaying 16 = .ok (.iload_n 3, 1) := by decide +kernel
theorem dX8_takesSaying_17 : decode cX8_takesSaying 17 = .ok (.ifCond .lt 9, 3) := by decide +kernel
theorem dX8_takesSaying_20 : decode cX8_takesSaying 20 = .ok (.iload_n 2, 1) := by decide +kernel
theorem dX8_takesSaying_21 : decode cX8_takesSaying 21 = .ok (.bipush 12, 2) := by decide +kernel
theorem dX8_takesSaying_23 : decode cX8_takesSaying 23 = .ok (.if_icmp .ne 5, 3) := by decide +kernel
theorem dX8_takesSaying_26 : decode cX8_takesSaying 26 = .ok (.iconst 0, 1) := by decide +kernel
theorem dX8_takesSaying_27 : decode cX8_takesSaying 27 = .ok (.ireturn, 1) := by decide +kernel
theorem dX8_takesSaying_28 : decode cX8_takesSaying 28 = .ok (.aload_n 0, 1) := by decide +kernel
theorem dX8_takesSaying_29 : decode cX8_takesSaying 29 = .ok (.dup, 1) := by decide +kernel
theorem dX8_takesSaying_30 : decode cX8_takesSaying 30 = .ok (.getfield 81, 3) := by decide +kernel
theorem dX8_takesSaying_33 : decode cX8_takesSaying 33 = .ok (.iconst 1, 1) := by decide +kernel
theorem dX8_takesSaying_34 : decode cX8_takesSaying 34 = .ok (.iadd, 1) := by decide +kernel
theorem dX8_takesSaying_35 : decode cX8_takesSaying 35 = .ok (.putfield 81, 3) := by decide +kernel
theorem dX8_takesSaying_38 : decode cX8_takesSaying 38 = .ok (.aload_n 0, 1) := by decide +kernel
theorem dX8_takesSaying_39 : decode cX8_takesSaying 39 = .ok (.getfield 39, 3) := by decide +kernel
theorem dX8_takesSaying_42 : decode cX8_takesSaying 42 = .ok (.iconst 3, 1) := by decide +kernel
theorem dX8_takesSaying_43 : decode cX8_takesSaying 43 = .ok (.iload_n 2, 1) := by decide +kernel
theorem dX8_takesSaying_44 : decode cX8_takesSaying 44 = .ok (.iadd, 1) := by decide +kernel
theorem dX8_takesSaying_45 : decode cX8_takesSaying 45 = .ok (.iload_n 3, 1) := by decide +kernel
theorem dX8_takesSaying_46 : decode cX8_takesSaying 46 = .ok (.iastore, 1) := by decide +kernel
theorem dX8_takesSaying_47 : decode cX8_takesSaying 47 = .ok (.aload_n 0, 1) := by decide +kernel
theorem dX8_takesSaying_48 : decode cX8_takesSaying 48 = .ok (.iload_n 1, 1) := by decide +kernel
theorem dX8_takesSaying_49 : decode cX8_takesSaying 49 = .ok (.bipush 15, 2) := by decide +kernel
theorem dX8_takesSaying_51 : decode cX8_takesSaying 51 = .ok (.iload_n 2, 1) := by decide +kernel
theorem dX8_takesSaying_52 : decode cX8_takesSaying 52 = .ok (.iadd, 1) := by decide +kernel
theorem dX8_takesSaying_53 : decode cX8_takesSaying 53 = .ok (.iconst 0, 1) := by decide +kernel
theorem dX8_takesSaying_54 : decode cX8_takesSaying 54 = .ok (.iconst 5, 1) := by decide +kernel
theorem dX8_takesSaying_55 : decode cX8_takesSaying 55 = .ok (.invokevirtual 90, 3) := by decide +kernel
theorem dX8_takesSaying_58 : decode cX8_takesSaying 58 = .ok (.ifCond .ne 5, 3) := by decide +kernel
theorem dX8_takesSaying_61 : decode cX8_takesSaying 61 = .ok (.iconst 0, 1) := by decide +kernel
theorem dX8_takesSaying_62 : decode cX8_takesSaying 62 = .ok (.ireturn, 1) := by decide +kernel
theorem dX8_takesSaying_63 : decode cX8_takesSaying 63 = .ok (.aload_n 0, 1) := by decide +kernel
theorem dX8_takesSaying_64 : decode cX8_takesSaying 64 = .ok (.iload_n 1, 1) := by decide +kernel
theorem dX8_takesSaying_65 : decode cX8_takesSaying 65 = .ok (.invokevirtual 84, 3) := by decide +kernel
theorem dX8_takesSaying_68 : decode cX8_takesSaying 68 = .ok (.bipush 48, 2) := by decide +kernel
theorem dX8_takesSaying_70 : decode cX8_takesSaying 70 = .ok (.isub, 1) := by decide +kernel
theorem dX8_takesSaying_71 : decode cX8_takesSaying 71 = .ok (.aload_n 0, 1) := by decide +kernel
theorem dX8_takesSaying_72 : decode cX8_takesSaying 72 = .ok (.getfield 39, 3) := by decide +kernel
theorem dX8_takesSaying_75 : decode cX8_takesSaying 75 = .ok (.bipush 15, 2) := by decide +kernel
theorem dX8_takesSaying_77 : decode cX8_takesSaying 77 = .ok (.iload_n 2, 1) := by decide +kernel
theorem dX8_takesSaying_78 : decode cX8_takesSaying 78 = .ok (.iadd, 1) := by decide +kernel
theorem dX8_takesSaying_79 : decode cX8_takesSaying 79 = .ok (.iaload, 1) := by decide +kernel
theorem dX8_takesSaying_80 : decode cX8_takesSaying 80 = .ok (.if_icmp .eq 46, 3) := by decide +kernel
theorem dX8_takesSaying_83 : decode cX8_takesSaying 83 = .ok (.aload_n 0, 1) := by decide +kernel
theorem dX8_takesSaying_84 : decode cX8_takesSaying 84 = .ok (.iload_n 1, 1) := by decide +kernel
theorem dX8_takesSaying_85 : decode cX8_takesSaying 85 = .ok (.bipush 27, 2) := by decide +kernel
theorem dX8_takesSaying_87 : decode cX8_takesSaying 87 = .ok (.iload_n 2, 1) := by decide +kernel
theorem dX8_takesSaying_88 : decode cX8_takesSaying 88 = .ok (.iadd, 1) := by decide +kernel
theorem dX8_takesSaying_89 : decode cX8_takesSaying 89 = .ok (.iconst 0, 1) := by decide +kernel
theorem dX8_takesSaying_90 : decode cX8_takesSaying 90 = .ok (.iconst 5, 1) := by decide +kernel
theorem dX8_takesSaying_91 : decode cX8_takesSaying 91 = .ok (.invokevirtual 90, 3) := by decide +kernel
theorem dX8_takesSaying_94 : decode cX8_takesSaying 94 = .ok (.ifCond .eq 32, 3) := by decide +kernel
theorem dX8_takesSaying_97 : decode cX8_takesSaying 97 = .ok (.aload_n 0, 1) := by decide +kernel
theorem dX8_takesSaying_98 : decode cX8_takesSaying 98 = .ok (.iload_n 1, 1) := by decide +kernel
theorem dX8_takesSaying_99 : decode cX8_takesSaying 99 = .ok (.bipush 39, 2) := by decide +kernel
theorem dX8_takesSaying_101 : decode cX8_takesSaying 101 = .ok (.iload_n 2, 1) := by decide +kernel
theorem dX8_takesSaying_102 : decode cX8_takesSaying 102 = .ok (.iadd, 1) := by decide +kernel
theorem dX8_takesSaying_103 : decode cX8_takesSaying 103 = .ok (.iconst 0, 1) := by decide +kernel
theorem dX8_takesSaying_104 : decode cX8_takesSaying 104 = .ok (.iconst 5, 1) := by decide +kernel
theorem dX8_takesSaying_105 : decode cX8_takesSaying 105 = .ok (.invokevirtual 90, 3) := by decide +kernel
theorem dX8_takesSaying_108 : decode cX8_takesSaying 108 = .ok (.ifCond .eq 18, 3) := by decide +kernel
theorem dX8_takesSaying_111 : decode cX8_takesSaying 111 = .ok (.aload_n 0, 1) := by decide +kernel
theorem dX8_takesSaying_112 : decode cX8_takesSaying 112 = .ok (.iload_n 1, 1) := by decide +kernel
theorem dX8_takesSaying_113 : decode cX8_takesSaying 113 = .ok (.bipush 51, 2) := by decide +kernel
theorem dX8_takesSaying_115 : decode cX8_takesSaying 115 = .ok (.iload_n 2, 1) := by decide +kernel
theorem dX8_takesSaying_116 : decode cX8_takesSaying 116 = .ok (.iadd, 1) := by decide +kernel
theorem dX8_takesSaying_117 : decode cX8_takesSaying 117 = .ok (.iconst 1, 1) := by decide +kernel
theorem dX8_takesSaying_118 : decode cX8_takesSaying 118 = .ok (.bipush 9, 2) := by decide +kernel
theorem dX8_takesSaying_120 : decode cX8_takesSaying 120 = .ok (.invokevirtual 90, 3) := by decide +kernel
theorem dX8_takesSaying_123 : decode cX8_takesSaying 123 = .ok (.ifCond .ne 5, 3) := by decide +kernel
theorem dX8_takesSaying_126 : decode cX8_takesSaying 126 = .ok (.iconst 0, 1) := by decide +kernel
theorem dX8_takesSaying_127 : decode cX8_takesSaying 127 = .ok (.ireturn, 1) := by decide +kernel
theorem dX8_takesSaying_128 : decode cX8_takesSaying 128 = .ok (.aload_n 0, 1) := by decide +kernel
theorem dX8_takesSaying_129 : decode cX8_takesSaying 129 = .ok (.iload_n 1, 1) := by decide +kernel
theorem dX8_takesSaying_130 : decode cX8_takesSaying 130 = .ok (.invokevirtual 84, 3) := by decide +kernel
theorem dX8_takesSaying_133 : decode cX8_takesSaying 133 = .ok (.bipush 65, 2) := by decide +kernel
theorem dX8_takesSaying_135 : decode cX8_takesSaying 135 = .ok (.isub, 1) := by decide +kernel
theorem dX8_takesSaying_136 : decode cX8_takesSaying 136 = .ok (.istore 4, 2) := by decide +kernel
theorem dX8_takesSaying_138 : decode cX8_takesSaying 138 = .ok (.aload_n 0, 1) := by decide +kernel
theorem dX8_takesSaying_139 : decode cX8_takesSaying 139 = .ok (.iload_n 1, 1) := by decide +kernel
theorem dX8_takesSaying_140 : decode cX8_takesSaying 140 = .ok (.invokevirtual 84, 3) := by decide +kernel
theorem dX8_takesSaying_143 : decode cX8_takesSaying 143 = .ok (.bipush 45, 2) := by decide +kernel
theorem dX8_takesSaying_145 : decode cX8_takesSaying 145 = .ok (.if_icmp .eq 19, 3) := by decide +kernel
theorem dX8_takesSaying_148 : decode cX8_takesSaying 148 = .ok (.iload 4, 2) := by decide +kernel
theorem dX8_takesSaying_150 : decode cX8_takesSaying 150 = .ok (.i2l, 1) := by decide +kernel
theorem dX8_takesSaying_151 : decode cX8_takesSaying 151 = .ok (.lconst 0, 1) := by decide +kernel
theorem dX8_takesSaying_152 : decode cX8_takesSaying 152 = .ok (.iload_n 2, 1) := by decide +kernel
theorem dX8_takesSaying_153 : decode cX8_takesSaying 153 = .ok (.iconst 1, 1) := by decide +kernel
theorem dX8_takesSaying_154 : decode cX8_takesSaying 154 = .ok (.isub, 1) := by decide +kernel
theorem dX8_takesSaying_155 : decode cX8_takesSaying 155 = .ok (.i2l, 1) := by decide +kernel
theorem dX8_takesSaying_156 : decode cX8_takesSaying 156 = .ok (.invokestatic 61, 3) := by decide +kernel
theorem dX8_takesSaying_159 : decode cX8_takesSaying 159 = .ok (.ifCond .ne 5, 3) := by decide +kernel
theorem dX8_takesSaying_162 : decode cX8_takesSaying 162 = .ok (.iconst 0, 1) := by decide +kernel
theorem dX8_takesSaying_163 : decode cX8_takesSaying 163 = .ok (.ireturn, 1) := by decide +kernel
theorem dX8_takesSaying_164 : decode cX8_takesSaying 164 = .ok (.aload_n 0, 1) := by decide +kernel
theorem dX8_takesSaying_165 : decode cX8_takesSaying 165 = .ok (.dup, 1) := by decide +kernel
theorem dX8_takesSaying_166 : decode cX8_takesSaying 166 = .ok (.getfield 81, 3) := by decide +kernel
theorem dX8_takesSaying_169 : decode cX8_takesSaying 169 = .ok (.iconst 1, 1) := by decide +kernel
theorem dX8_takesSaying_170 : decode cX8_takesSaying 170 = .ok (.iadd, 1) := by decide +kernel
theorem dX8_takesSaying_171 : decode cX8_takesSaying 171 = .ok (.putfield 81, 3) := by decide +kernel
theorem dX8_takesSaying_174 : decode cX8_takesSaying 174 = .ok (.aload_n 0, 1) := by decide +kernel
theorem dX8_takesSaying_175 : decode cX8_takesSaying 175 = .ok (.getfield 39, 3) := by decide +kernel
theorem dX8_takesSaying_178 : decode cX8_takesSaying 178 = .ok (.bipush 63, 2) := by decide +kernel
theorem dX8_takesSaying_180 : decode cX8_takesSaying 180 = .ok (.iload_n 2, 1) := by decide +kernel
theorem dX8_takesSaying_181 : decode cX8_takesSaying 181 = .ok (.iadd, 1) := by decide +kernel
theorem dX8_takesSaying_182 : decode cX8_takesSaying 182 = .ok (.iload 4, 2) := by decide +kernel
theorem dX8_takesSaying_184 : decode cX8_takesSaying 184 = .ok (.ifCond .ge 8, 3) := by decide +kernel
theorem dX8_takesSaying_187 : decode cX8_takesSaying 187 = .ok (.bipush (-9), 2) := by decide +kernel
theorem dX8_takesSaying_189 : decode cX8_takesSaying 189 = .ok (.goto 5, 3) := by decide +kernel
theorem dX8_takesSaying_192 : decode cX8_takesSaying 192 = .ok (.iload 4, 2) := by decide +kernel
theorem dX8_takesSaying_194 : decode cX8_takesSaying 194 = .ok (.iastore, 1) := by decide +kernel
theorem dX8_takesSaying_195 : decode cX8_takesSaying 195 = .ok (.aload_n 0, 1) := by decide +kernel
theorem dX8_takesSaying_196 : decode cX8_takesSaying 196 = .ok (.getfield 39, 3) := by decide +kernel
theorem dX8_takesSaying_199 : decode cX8_takesSaying 199 = .ok (.iconst 0, 1) := by decide +kernel
theorem dX8_takesSaying_200 : decode cX8_takesSaying 200 = .ok (.dup2, 1) := by decide +kernel
theorem dX8_takesSaying_201 : decode cX8_takesSaying 201 = .ok (.iaload, 1) := by decide +kernel
theorem dX8_takesSaying_202 : decode cX8_takesSaying 202 = .ok (.iconst 1, 1) := by decide +kernel
theorem dX8_takesSaying_203 : decode cX8_takesSaying 203 = .ok (.iadd, 1) := by decide +kernel
theorem dX8_takesSaying_204 : decode cX8_takesSaying 204 = .ok (.iastore, 1) := by decide +kernel
theorem dX8_takesSaying_205 : decode cX8_takesSaying 205 = .ok (.iconst 1, 1) := by decide +kernel
theorem dX8_takesSaying_206 : decode cX8_takesSaying 206 = .ok (.ireturn, 1) := by decide +kernel
set_option maxRecDepth 20000 in
theorem ggX8_reads_X8_byteAt : GoodIn wsX8_reads wsX8_byteAt := goodIn_r _ [8, 2, 3, 9, 24, 25, 26, 27, 28, 29, 30, 31, 32, 33, 34, 35, 36, 37, 38, 39, 40] (by decide +kernel) (by decide +kernel)
set_option maxRecDepth 20000 in
theorem gX8_reads_X8_byteAt : GoodIn wsX8_reads (wsV RX8 84 RX8 yX8_byteAt wsX8_byteAt) := goodIn_app (goodIn_of _ (by decide +kernel)) ggX8_reads_X8_byteAt
set_option maxRecDepth 20000 in
theorem ggX8_reads_X8_takesSaying : GoodIn wsX8_reads wsX8_takesSaying := goodIn_r _ [13, 1, 2, 4, 5, 6, 7, 8, 3, 9, 14, 15, 16, 17, 18, 19, 20, 21, 22, 23, 24, 25, 26, 27, 28, 29, 30, 31, 32, 33, 34, 35, 36, 37, 38, 39, 40] (by decide +kernel) (by decide +kernel)
set_option maxRecDepth 20000 in
theorem gX8_reads_X8_takesSaying : GoodIn wsX8_reads (wsV RX8 94 RX8 yX8_takesSaying wsX8_takesSaying) := goodIn_app (goodIn_of _ (by decide +kernel)) ggX8_reads_X8_takesSaying
theorem dX8_reads_0 : decode cX8_reads 0 = .ok (.iconst 0, 1) := by decide +kernel
theorem dX8_reads_1 : decode cX8_reads 1 = .ok (.istore_n 2, 1) := by decide +kernel
theorem dX8_reads_2 : decode cX8_reads 2 = .ok (.iload_n 2, 1) := by decide +kernel
theorem dX8_reads_3 : decode cX8_reads 3 = .ok (.bipush 115, 2) := by decide +kernel
theorem dX8_reads_5 : decode cX8_reads 5 = .ok (.if_icmp .ge 16, 3) := by decide +kernel
theorem dX8_reads_8 : decode cX8_reads 8 = .ok (.aload_n 0, 1) := by decide +kernel
theorem dX8_reads_9 : decode cX8_reads 9 = .ok (.getfield 39, 3) := by decide +kernel
theorem dX8_reads_12 : decode cX8_reads 12 = .ok (.iload_n 2, 1) := by decide +kernel
theorem dX8_reads_13 : decode cX8_reads 13 = .ok (.iconst 0, 1) := by decide +kernel
theorem dX8_reads_14 : decode cX8_reads 14 = .ok (.iastore, 1) := by decide +kernel
theorem dX8_reads_15 : decode cX8_reads 15 = .ok (.iinc 2 1, 3) := by decide +kernel
theorem dX8_reads_18 : decode cX8_reads 18 = .ok (.goto (-16), 3) := by decide +kernel
theorem dX8_reads_21 : decode cX8_reads 21 = .ok (.aload_n 0, 1) := by decide +kernel
theorem dX8_reads_22 : decode cX8_reads 22 = .ok (.iconst 0, 1) := by decide +kernel
theorem dX8_reads_23 : decode cX8_reads 23 = .ok (.putfield 81, 3) := by decide +kernel
theorem dX8_reads_26 : decode cX8_reads 26 = .ok (.aload_n 0, 1) := by decide +kernel
theorem dX8_reads_27 : decode cX8_reads 27 = .ok (.getfield 81, 3) := by decide +kernel
theorem dX8_reads_30 : decode cX8_reads 30 = .ok (.aload_n 0, 1) := by decide +kernel
theorem dX8_reads_31 : decode cX8_reads 31 = .ok (.getfield 16, 3) := by decide +kernel
theorem dX8_reads_34 : decode cX8_reads 34 = .ok (.iload_n 1, 1) := by decide +kernel
theorem dX8_reads_35 : decode cX8_reads 35 = .ok (.iaload, 1) := by decide +kernel
theorem dX8_reads_36 : decode cX8_reads 36 = .ok (.if_icmp .ge 39, 3) := by decide +kernel
theorem dX8_reads_39 : decode cX8_reads 39 = .ok (.aload_n 0, 1) := by decide +kernel
theorem dX8_reads_40 : decode cX8_reads 40 = .ok (.iload_n 1, 1) := by decide +kernel
theorem dX8_reads_41 : decode cX8_reads 41 = .ok (.invokevirtual 84, 3) := by decide +kernel
theorem dX8_reads_44 : decode cX8_reads 44 = .ok (.bipush 32, 2) := by decide +kernel
theorem dX8_reads_46 : decode cX8_reads 46 = .ok (.if_icmp .ne 16, 3) := by decide +kernel
theorem dX8_reads_49 : decode cX8_reads 49 = .ok (.aload_n 0, 1) := by decide +kernel
theorem dX8_reads_50 : decode cX8_reads 50 = .ok (.dup, 1) := by decide +kernel
theorem dX8_reads_51 : decode cX8_reads 51 = .ok (.getfield 81, 3) := by decide +kernel
theorem dX8_reads_54 : decode cX8_reads 54 = .ok (.iconst 1, 1) := by decide +kernel
theorem dX8_reads_55 : decode cX8_reads 55 = .ok (.iadd, 1) := by decide +kernel
theorem dX8_reads_56 : decode cX8_reads 56 = .ok (.putfield 81, 3) := by decide +kernel
theorem dX8_reads_59 : decode cX8_reads 59 = .ok (.goto (-33), 3) := by decide +kernel
theorem dX8_reads_62 : decode cX8_reads 62 = .ok (.aload_n 0, 1) := by decide +kernel
theorem dX8_reads_63 : decode cX8_reads 63 = .ok (.iload_n 1, 1) := by decide +kernel
theorem dX8_reads_64 : decode cX8_reads 64 = .ok (.invokevirtual 94, 3) := by decide +kernel
theorem dX8_reads_67 : decode cX8_reads 67 = .ok (.ifCond .ne (-41), 3) := by decide +kernel
theorem dX8_reads_70 : decode cX8_reads 70 = .ok (.aload_n 0, 1) := by decide +kernel
theorem dX8_reads_71 : decode cX8_reads 71 = .ok (.getfield 81, 3) := by decide +kernel
theorem dX8_reads_74 : decode cX8_reads 74 = .ok (.ireturn, 1) := by decide +kernel
theorem dX8_reads_75 : decode cX8_reads 75 = .ok (.aload_n 0, 1) := by decide +kernel
theorem dX8_reads_76 : decode cX8_reads 76 = .ok (.getfield 39, 3) := by decide +kernel
theorem dX8_reads_79 : decode cX8_reads 79 = .ok (.iconst 2, 1) := by decide +kernel
theorem dX8_reads_80 : decode cX8_reads 80 = .ok (.iconst 1, 1) := by decide +kernel
theorem dX8_reads_81 : decode cX8_reads 81 = .ok (.aload_n 0, 1) := by decide +kernel
theorem dX8_reads_82 : decode cX8_reads 82 = .ok (.getfield 39, 3) := by decide +kernel
theorem dX8_reads_85 : decode cX8_reads 85 = .ok (.iconst 0, 1) := by decide +kernel
theorem dX8_reads_86 : decode cX8_reads 86 = .ok (.iaload, 1) := by decide +kernel
theorem dX8_reads_87 : decode cX8_reads 87 = .ok (.ishl, 1) := by decide +kernel
theorem dX8_reads_88 : decode cX8_reads 88 = .ok (.iconst 1, 1) := by decide +kernel
theorem dX8_reads_89 : decode cX8_reads 89 = .ok (.isub, 1) := by decide +kernel
theorem dX8_reads_90 : decode cX8_reads 90 = .ok (.iastore, 1) := by decide +kernel
theorem dX8_reads_91 : decode cX8_reads 91 = .ok (.bipush (-9), 2) := by decide +kernel
theorem dX8_reads_93 : decode cX8_reads 93 = .ok (.ireturn, 1) := by decide +kernel
set_option maxRecDepth 20000 in
theorem ggX8_fault_X8_isText : GoodIn wsX8_fault wsX8_isText := goodIn_r _ [5, 6, 7, 8, 4, 9] (by decide +kernel) (by decide +kernel)
set_option maxRecDepth 20000 in
theorem gX8_fault_X8_isText : GoodIn wsX8_fault (va_wsS RX8 78 yX8_isText wsX8_isText) := goodIn_app (goodIn_of _ (by decide +kernel)) ggX8_fault_X8_isText
set_option maxRecDepth 20000 in
theorem ggX8_fault_X8_found : GoodIn wsX8_fault wsX8_found := goodIn_r _ [13, 14, 15, 38, 39, 40, 41, 42, 43, 44, 45, 46, 47, 48, 49, 50, 51, 52, 53, 54] (by decide +kernel) (by decide +kernel)
set_option maxRecDepth 20000 in
theorem gX8_fault_X8_found : GoodIn wsX8_fault (wsV RX8 71 RX8 yX8_found wsX8_found) := goodIn_app (goodIn_of _ (by decide +kernel)) ggX8_fault_X8_found
set_option maxRecDepth 20000 in
theorem ggX8_fault_X8_reads : GoodIn wsX8_fault wsX8_reads := goodIn_r _ [19, 20, 21, 1, 22, 23, 24, 4, 25, 26, 27, 28, 29, 30, 31, 32, 33, 34, 35, 36, 37, 7, 8, 9, 38, 39, 40, 41, 42, 43, 44, 45, 46, 47, 48, 49, 50, 51, 52, 53, 54] (by decide +kernel) (by decide +kernel)
set_option maxRecDepth 20000 in
theorem gX8_fault_X8_reads : GoodIn wsX8_fault (wsV RX8 97 RX8 yX8_reads wsX8_reads) := goodIn_app (goodIn_of _ (by decide +kernel)) ggX8_fault_X8_reads
theorem dX8_fault_0 : decode cX8_fault 0 = .ok (.iload_n 1, 1) := by decide +kernel
theorem dX8_fault_1 : decode cX8_fault 1 = .ok (.invokestatic 78, 3) := by decide +kernel
theorem dX8_fault_4 : decode cX8_fault 4 = .ok (.ifCond .ne 5, 3) := by decide +kernel
theorem dX8_fault_7 : decode cX8_fault 7 = .ok (.iconst (-1), 1) := by decide +kernel
theorem dX8_fault_8 : decode cX8_fault 8 = .ok (.ireturn, 1) := by decide +kernel
theorem dX8_fault_9 : decode cX8_fault 9 = .ok (.aload_n 0, 1) := by decide +kernel
theorem dX8_fault_10 : decode cX8_fault 10 = .ok (.getfield 16, 3) := by decide +kernel
theorem dX8_fault_13 : decode cX8_fault 13 = .ok (.iload_n 1, 1) := by decide +kernel
theorem dX8_fault_14 : decode cX8_fault 14 = .ok (.iaload, 1) := by decide +kernel
theorem dX8_fault_15 : decode cX8_fault 15 = .ok (.ifCond .ge 11, 3) := by decide +kernel
theorem dX8_fault_18 : decode cX8_fault 18 = .ok (.aload_n 0, 1) := by decide +kernel
theorem dX8_fault_19 : decode cX8_fault 19 = .ok (.iconst 1, 1) := by decide +kernel
theorem dX8_fault_20 : decode cX8_fault 20 = .ok (.invokevirtual 71, 3) := by decide +kernel
theorem dX8_fault_23 : decode cX8_fault 23 = .ok (.goto 8, 3) := by decide +kernel
theorem dX8_fault_26 : decode cX8_fault 26 = .ok (.aload_n 0, 1) := by decide +kernel
theorem dX8_fault_27 : decode cX8_fault 27 = .ok (.iload_n 1, 1) := by decide +kernel
theorem dX8_fault_28 : decode cX8_fault 28 = .ok (.invokevirtual 97, 3) := by decide +kernel
theorem dX8_fault_31 : decode cX8_fault 31 = .ok (.ireturn, 1) := by decide +kernel
theorem dX8_copies_0 : decode cX8_copies 0 = .ok (.iconst 0, 1) := by decide +kernel
theorem dX8_copies_1 : decode cX8_copies 1 = .ok (.istore 4, 2) := by decide +kernel
theorem dX8_copies_3 : decode cX8_copies 3 = .ok (.iload 4, 2) := by decide +kernel
theorem dX8_copies_5 : decode cX8_copies 5 = .ok (.bipush 115, 2) := by decide +kernel
theorem dX8_copies_7 : decode cX8_copies 7 = .ok (.if_icmp .ge 21, 3) := by decide +kernel
theorem dX8_copies_10 : decode cX8_copies 10 = .ok (.aload_n 2, 1) := by decide +kernel
theorem dX8_copies_11 : decode cX8_copies 11 = .ok (.iload_n 3, 1) := by decide +kernel
theorem dX8_copies_12 : decode cX8_copies 12 = .ok (.iload 4, 2) := by decide +kernel
theorem dX8_copies_14 : decode cX8_copies 14 = .ok (.iadd, 1) := by decide +kernel
theorem dX8_copies_15 : decode cX8_copies 15 = .ok (.aload_n 0, 1) := by decide +kernel
theorem dX8_copies_16 : decode cX8_copies 16 = .ok (.iload_n 1, 1) := by decide +kernel
theorem dX8_copies_17 : decode cX8_copies 17 = .ok (.iload 4, 2) := by decide +kernel
theorem dX8_copies_19 : decode cX8_copies 19 = .ok (.iadd, 1) := by decide +kernel
theorem dX8_copies_20 : decode cX8_copies 20 = .ok (.iaload, 1) := by decide +kernel
theorem dX8_copies_21 : decode cX8_copies 21 = .ok (.iastore, 1) := by decide +kernel
theorem dX8_copies_22 : decode cX8_copies 22 = .ok (.iinc 4 1, 3) := by decide +kernel
theorem dX8_copies_25 : decode cX8_copies 25 = .ok (.goto (-22), 3) := by decide +kernel
theorem dX8_copies_28 : decode cX8_copies 28 = .ok (.return_, 1) := by decide +kernel
set_option maxRecDepth 20000 in
theorem ggX8_heap_X8_isText : GoodIn wsX8_heap wsX8_isText := goodIn_r _ [8, 9, 10, 11, 7, 12] (by decide +kernel) (by decide +kernel)
set_option maxRecDepth 20000 in
theorem gX8_heap_X8_isText : GoodIn wsX8_heap (va_wsS RX8 78 yX8_isText wsX8_isText) := goodIn_app (goodIn_of _ (by decide +kernel)) ggX8_heap_X8_isText
set_option maxRecDepth 20000 in
theorem ggX8_heap_X8_found : GoodIn wsX8_heap wsX8_found := goodIn_r _ [16, 17, 18, 43, 44, 45, 46, 47, 48, 49, 50, 51, 52, 53, 54, 55, 56, 57, 58, 59] (by decide +kernel) (by decide +kernel)
set_option maxRecDepth 20000 in
theorem gX8_heap_X8_found : GoodIn wsX8_heap (wsV RX8 71 RX8 yX8_found wsX8_found) := goodIn_app (goodIn_of _ (by decide +kernel)) ggX8_heap_X8_found
set_option maxRecDepth 20000 in
theorem ggX8_heap_X8_reads : GoodIn wsX8_heap wsX8_reads := goodIn_r _ [22, 2, 23, 1, 24, 25, 26, 7, 27, 28, 29, 30, 31, 32, 33, 34, 35, 36, 37, 38, 39, 10, 11, 12, 43, 44, 45, 46, 47, 48, 49, 50, 51, 52, 53, 54, 55, 56, 57, 58, 59] (by decide +kernel) (by decide +kernel)
set_option maxRecDepth 20000 in
theorem gX8_heap_X8_reads : GoodIn wsX8_heap (wsV RX8 97 RX8 yX8_reads wsX8_reads) := goodIn_app (goodIn_of _ (by decide +kernel)) ggX8_heap_X8_reads
set_option maxRecDepth 20000 in
theorem ggX8_heap_X8_copies : GoodIn wsX8_heap wsX8_copies := goodIn_r _ [42] (by decide +kernel) (by decide +kernel)
set_option maxRecDepth 20000 in
theorem gX8_heap_X8_copies : GoodIn wsX8_heap (va_wsS RX8 100 yX8_copies wsX8_copies) := goodIn_app (goodIn_of _ (by decide +kernel)) ggX8_heap_X8_copies
theorem dX8_heap_0 : decode cX8_heap 0 = .ok (.iload_n 1, 1) := by decide +kernel
theorem dX8_heap_1 : decode cX8_heap 1 = .ok (.invokestatic 78, 3) := by decide +kernel
theorem dX8_heap_4 : decode cX8_heap 4 = .ok (.ifCond .ne 5, 3) := by decide +kernel
theorem dX8_heap_7 : decode cX8_heap 7 = .ok (.iconst (-1), 1) := by decide +kernel
theorem dX8_heap_8 : decode cX8_heap 8 = .ok (.ireturn, 1) := by decide +kernel
theorem dX8_heap_9 : decode cX8_heap 9 = .ok (.aload_n 0, 1) := by decide +kernel
theorem dX8_heap_10 : decode cX8_heap 10 = .ok (.getfield 16, 3) := by decide +kernel
theorem dX8_heap_13 : decode cX8_heap 13 = .ok (.iload_n 1, 1) := by decide +kernel
theorem dX8_heap_14 : decode cX8_heap 14 = .ok (.iaload, 1) := by decide +kernel
theorem dX8_heap_15 : decode cX8_heap 15 = .ok (.ifCond .ge 9, 3) := by decide +kernel
theorem dX8_heap_18 : decode cX8_heap 18 = .ok (.aload_n 0, 1) := by decide +kernel
theorem dX8_heap_19 : decode cX8_heap 19 = .ok (.iconst 1, 1) := by decide +kernel
theorem dX8_heap_20 : decode cX8_heap 20 = .ok (.invokevirtual 71, 3) := by decide +kernel
theorem dX8_heap_23 : decode cX8_heap 23 = .ok (.ireturn, 1) := by decide +kernel
theorem dX8_heap_24 : decode cX8_heap 24 = .ok (.aload_n 0, 1) := by decide +kernel
theorem dX8_heap_25 : decode cX8_heap 25 = .ok (.iload_n 1, 1) := by decide +kernel
theorem dX8_heap_26 : decode cX8_heap 26 = .ok (.invokevirtual 97, 3) := by decide +kernel
theorem dX8_heap_29 : decode cX8_heap 29 = .ok (.bipush (-9), 2) := by decide +kernel
theorem dX8_heap_31 : decode cX8_heap 31 = .ok (.if_icmp .eq 6, 3) := by decide +kernel
theorem dX8_heap_34 : decode cX8_heap 34 = .ok (.bipush (-4), 2) := by decide +kernel
theorem dX8_heap_36 : decode cX8_heap 36 = .ok (.ireturn, 1) := by decide +kernel
theorem dX8_heap_37 : decode cX8_heap 37 = .ok (.aload_n 0, 1) := by decide +kernel
theorem dX8_heap_38 : decode cX8_heap 38 = .ok (.getfield 39, 3) := by decide +kernel
theorem dX8_heap_41 : decode cX8_heap 41 = .ok (.iconst 0, 1) := by decide +kernel
theorem dX8_heap_42 : decode cX8_heap 42 = .ok (.aload_n 0, 1) := by decide +kernel
theorem dX8_heap_43 : decode cX8_heap 43 = .ok (.getfield 22, 3) := by decide +kernel
theorem dX8_heap_46 : decode cX8_heap 46 = .ok (.iconst 0, 1) := by decide +kernel
theorem dX8_heap_47 : decode cX8_heap 47 = .ok (.invokestatic 100, 3) := by decide +kernel
theorem dX8_heap_50 : decode cX8_heap 50 = .ok (.iconst 0, 1) := by decide +kernel
theorem dX8_heap_51 : decode cX8_heap 51 = .ok (.istore_n 2, 1) := by decide +kernel
theorem dX8_heap_52 : decode cX8_heap 52 = .ok (.iload_n 2, 1) := by decide +kernel
theorem dX8_heap_53 : decode cX8_heap 53 = .ok (.iconst 3, 1) := by decide +kernel
theorem dX8_heap_54 : decode cX8_heap 54 = .ok (.if_icmp .ge 16, 3) := by decide +kernel
theorem dX8_heap_57 : decode cX8_heap 57 = .ok (.aload_n 0, 1) := by decide +kernel
theorem dX8_heap_58 : decode cX8_heap 58 = .ok (.getfield 28, 3) := by decide +kernel
theorem dX8_heap_61 : decode cX8_heap 61 = .ok (.iload_n 2, 1) := by decide +kernel
theorem dX8_heap_62 : decode cX8_heap 62 = .ok (.iconst 0, 1) := by decide +kernel
theorem dX8_heap_63 : decode cX8_heap 63 = .ok (.bastore, 1) := by decide +kernel
theorem dX8_heap_64 : decode cX8_heap 64 = .ok (.iinc 2 1, 3) := by decide +kernel
theorem dX8_heap_67 : decode cX8_heap 67 = .ok (.goto (-15), 3) := by decide +kernel
theorem dX8_heap_70 : decode cX8_heap 70 = .ok (.aload_n 0, 1) := by decide +kernel
theorem dX8_heap_71 : decode cX8_heap 71 = .ok (.getfield 22, 3) := by decide +kernel
theorem dX8_heap_74 : decode cX8_heap 74 = .ok (.iconst 0, 1) := by decide +kernel
theorem dX8_heap_75 : decode cX8_heap 75 = .ok (.iaload, 1) := by decide +kernel
theorem dX8_heap_76 : decode cX8_heap 76 = .ok (.ireturn, 1) := by decide +kernel
set_option maxRecDepth 20000 in
theorem ggX8_isSaying_X8_in : GoodIn wsX8_isSaying wsX8_in := goodIn_r _ [5] (by decide +kernel) (by decide +kernel)
set_option maxRecDepth 20000 in
theorem gX8_isSaying_X8_in : GoodIn wsX8_isSaying (va_wsS RX8 61 yX8_in wsX8_in) := goodIn_app (goodIn_of _ (by decide +kernel)) ggX8_isSaying_X8_in
theorem dX8_isSaying_0 : decode cX8_isSaying 0 = .ok (.iload_n 1, 1) := by decide +kernel
theorem dX8_isSaying_1 : decode cX8_isSaying 1 = .ok (.i2l, 1) := by decide +kernel
theorem dX8_isSaying_2 : decode cX8_isSaying 2 = .ok (.lconst 0, 1) := by decide +kernel
theorem dX8_isSaying_3 : decode cX8_isSaying 3 = .ok (.aload_n 0, 1) := by decide +kernel
theorem dX8_isSaying_4 : decode cX8_isSaying 4 = .ok (.getfield 22, 3) := by decide +kernel
theorem dX8_isSaying_7 : decode cX8_isSaying 7 = .ok (.iconst 0, 1) := by decide +kernel
theorem dX8_isSaying_8 : decode cX8_isSaying 8 = .ok (.iaload, 1) := by decide +kernel
theorem dX8_isSaying_9 : decode cX8_isSaying 9 = .ok (.iconst 1, 1) := by decide +kernel
theorem dX8_isSaying_10 : decode cX8_isSaying 10 = .ok (.isub, 1) := by decide +kernel
theorem dX8_isSaying_11 : decode cX8_isSaying 11 = .ok (.i2l, 1) := by decide +kernel
theorem dX8_isSaying_12 : decode cX8_isSaying 12 = .ok (.invokestatic 61, 3) := by decide +kernel
theorem dX8_isSaying_15 : decode cX8_isSaying 15 = .ok (.ireturn, 1) := by decide +kernel
set_option maxRecDepth 20000 in
theorem ggX8_isPerson_X8_in : GoodIn wsX8_isPerson wsX8_in := goodIn_r _ [5] (by decide +kernel) (by decide +kernel)
set_option maxRecDepth 20000 in
theorem gX8_isPerson_X8_in : GoodIn wsX8_isPerson (va_wsS RX8 61 yX8_in wsX8_in) := goodIn_app (goodIn_of _ (by decide +kernel)) ggX8_isPerson_X8_in
theorem dX8_isPerson_0 : decode cX8_isPerson 0 = .ok (.iload_n 0, 1) := by decide +kernel
theorem dX8_isPerson_1 : decode cX8_isPerson 1 = .ok (.i2l, 1) := by decide +kernel
theorem dX8_isPerson_2 : decode cX8_isPerson 2 = .ok (.lconst 0, 1) := by decide +kernel
theorem dX8_isPerson_3 : decode cX8_isPerson 3 = .ok (.ldc2_w 59, 3) := by decide +kernel
theorem dX8_isPerson_6 : decode cX8_isPerson 6 = .ok (.invokestatic 61, 3) := by decide +kernel
theorem dX8_isPerson_9 : decode cX8_isPerson 9 = .ok (.ireturn, 1) := by decide +kernel
theorem dX8_has_0 : decode cX8_has 0 = .ok (.iload_n 0, 1) := by decide +kernel
theorem dX8_has_1 : decode cX8_has 1 = .ok (.iload_n 1, 1) := by decide +kernel
theorem dX8_has_2 : decode cX8_has 2 = .ok (.ishr, 1) := by decide +kernel
theorem dX8_has_3 : decode cX8_has 3 = .ok (.iconst 1, 1) := by decide +kernel
theorem dX8_has_4 : decode cX8_has 4 = .ok (.iand, 1) := by decide +kernel
theorem dX8_has_5 : decode cX8_has 5 = .ok (.iconst 1, 1) := by decide +kernel
theorem dX8_has_6 : decode cX8_has 6 = .ok (.if_icmp .ne 7, 3) := by decide +kernel
theorem dX8_has_9 : decode cX8_has 9 = .ok (.iconst 1, 1) := by decide +kernel
theorem dX8_has_10 : decode cX8_has 10 = .ok (.goto 4, 3) := by decide +kernel
theorem dX8_has_13 : decode cX8_has 13 = .ok (.iconst 0, 1) := by decide +kernel
theorem dX8_has_14 : decode cX8_has 14 = .ok (.ireturn, 1) := by decide +kernel
theorem dX8_isOf_0 : decode cX8_isOf 0 = .ok (.iload_n 1, 1) := by decide +kernel
theorem dX8_isOf_1 : decode cX8_isOf 1 = .ok (.ifCond .eq 28, 3) := by decide +kernel
theorem dX8_isOf_4 : decode cX8_isOf 4 = .ok (.iload_n 0, 1) := by decide +kernel
theorem dX8_isOf_5 : decode cX8_isOf 5 = .ok (.iload_n 1, 1) := by decide +kernel
theorem dX8_isOf_6 : decode cX8_isOf 6 = .ok (.if_icmp .eq 23, 3) := by decide +kernel
theorem dX8_isOf_9 : decode cX8_isOf 9 = .ok (.iload_n 1, 1) := by decide +kernel
theorem dX8_isOf_10 : decode cX8_isOf 10 = .ok (.iconst 1, 1) := by decide +kernel
theorem dX8_isOf_11 : decode cX8_isOf 11 = .ok (.if_icmp .ne 8, 3) := by decide +kernel
theorem dX8_isOf_14 : decode cX8_isOf 14 = .ok (.iload_n 0, 1) := by decide +kernel
theorem dX8_isOf_15 : decode cX8_isOf 15 = .ok (.iconst 5, 1) := by decide +kernel
theorem dX8_isOf_16 : decode cX8_isOf 16 = .ok (.if_icmp .eq 13, 3) := by decide +kernel
theorem dX8_isOf_19 : decode cX8_isOf 19 = .ok (.iload_n 1, 1) := by decide +kernel
theorem dX8_isOf_20 : decode cX8_isOf 20 = .ok (.iconst 3, 1) := by decide +kernel
theorem dX8_isOf_21 : decode cX8_isOf 21 = .ok (.if_icmp .ne 12, 3) := by decide +kernel
theorem dX8_isOf_24 : decode cX8_isOf 24 = .ok (.iload_n 0, 1) := by decide +kernel
theorem dX8_isOf_25 : decode cX8_isOf 25 = .ok (.iconst 4, 1) := by decide +kernel
theorem dX8_isOf_26 : decode cX8_isOf 26 = .ok (.if_icmp .ne 7, 3) := by decide +kernel
theorem dX8_isOf_29 : decode cX8_isOf 29 = .ok (.iconst 1, 1) := by decide +kernel
theorem dX8_isOf_30 : decode cX8_isOf 30 = .ok (.goto 4, 3) := by decide +kernel
theorem dX8_isOf_33 : decode cX8_isOf 33 = .ok (.iconst 0, 1) := by decide +kernel
theorem dX8_isOf_34 : decode cX8_isOf 34 = .ok (.ireturn, 1) := by decide +kernel
theorem dX8_bits_0 : decode cX8_bits 0 = .ok (.iconst 0, 1) := by decide +kernel
theorem dX8_bits_1 : decode cX8_bits 1 = .ok (.istore_n 1, 1) := by decide +kernel
theorem dX8_bits_2 : decode cX8_bits 2 = .ok (.iload_n 0, 1) := by decide +kernel
theorem dX8_bits_3 : decode cX8_bits 3 = .ok (.istore_n 2, 1) := by decide +kernel
theorem dX8_bits_4 : decode cX8_bits 4 = .ok (.iload_n 2, 1) := by decide +kernel
theorem dX8_bits_5 : decode cX8_bits 5 = .ok (.ifCond .eq 15, 3) := by decide +kernel
theorem dX8_bits_8 : decode cX8_bits 8 = .ok (.iinc 1 1, 3) := by decide +kernel
theorem dX8_bits_11 : decode cX8_bits 11 = .ok (.iload_n 2, 1) := by decide +kernel
theorem dX8_bits_12 : decode cX8_bits 12 = .ok (.iload_n 2, 1) := by decide +kernel
theorem dX8_bits_13 : decode cX8_bits 13 = .ok (.iconst 1, 1) := by decide +kernel
theorem dX8_bits_14 : decode cX8_bits 14 = .ok (.isub, 1) := by decide +kernel
theorem dX8_bits_15 : decode cX8_bits 15 = .ok (.iand, 1) := by decide +kernel
theorem dX8_bits_16 : decode cX8_bits 16 = .ok (.istore_n 2, 1) := by decide +kernel
theorem dX8_bits_17 : decode cX8_bits 17 = .ok (.goto (-13), 3) := by decide +kernel
theorem dX8_bits_20 : decode cX8_bits 20 = .ok (.iload_n 1, 1) := by decide +kernel
theorem dX8_bits_21 : decode cX8_bits 21 = .ok (.ireturn, 1) := by decide +kernel
theorem dX8_isBetween_0 : decode cX8_isBetween 0 = .ok (.aload_n 0, 1) := by decide +kernel
theorem dX8_isBetween_1 : decode cX8_isBetween 1 = .ok (.getfield 22, 3) := by decide +kernel
theorem dX8_isBetween_4 : decode cX8_isBetween 4 = .ok (.bipush 15, 2) := by decide +kernel
theorem dX8_isBetween_6 : decode cX8_isBetween 6 = .ok (.iload_n 1, 1) := by decide +kernel
theorem dX8_isBetween_7 : decode cX8_isBetween 7 = .ok (.iadd, 1) := by decide +kernel
theorem dX8_isBetween_8 : decode cX8_isBetween 8 = .ok (.iaload, 1) := by decide +kernel
theorem dX8_isBetween_9 : decode cX8_isBetween 9 = .ok (.iload_n 2, 1) := by decide +kernel
theorem dX8_isBetween_10 : decode cX8_isBetween 10 = .ok (.if_icmp .ne 16, 3) := by decide +kernel
theorem dX8_isBetween_13 : decode cX8_isBetween 13 = .ok (.aload_n 0, 1) := by decide +kernel
theorem dX8_isBetween_14 : decode cX8_isBetween 14 = .ok (.getfield 22, 3) := by decide +kernel
theorem dX8_isBetween_17 : decode cX8_isBetween 17 = .ok (.bipush 27, 2) := by decide +kernel
theorem dX8_isBetween_19 : decode cX8_isBetween 19 = .ok (.iload_n 1, 1) := by decide +kernel
theorem dX8_isBetween_20 : decode cX8_isBetween 20 = .ok (.iadd, 1) := by decide +kernel
theorem dX8_isBetween_21 : decode cX8_isBetween 21 = .ok (.iaload, 1) := by decide +kernel
theorem dX8_isBetween_22 : decode cX8_isBetween 22 = .ok (.iload_n 3, 1) := by decide +kernel
theorem dX8_isBetween_23 : decode cX8_isBetween 23 = .ok (.if_icmp .eq 29, 3) := by decide +kernel
theorem dX8_isBetween_26 : decode cX8_isBetween 26 = .ok (.aload_n 0, 1) := by decide +kernel
theorem dX8_isBetween_27 : decode cX8_isBetween 27 = .ok (.getfield 22, 3) := by decide +kernel
theorem dX8_isBetween_30 : decode cX8_isBetween 30 = .ok (.bipush 15, 2) := by decide +kernel
theorem dX8_isBetween_32 : decode cX8_isBetween 32 = .ok (.iload_n 1, 1) := by decide +kernel
theorem dX8_isBetween_33 : decode cX8_isBetween 33 = .ok (.iadd, 1) := by decide +kernel
theorem dX8_isBetween_34 : decode cX8_isBetween 34 = .ok (.iaload, 1) := by decide +kernel
theorem dX8_isBetween_35 : decode cX8_isBetween 35 = .ok (.iload_n 3, 1) := by decide +kernel
theorem dX8_isBetween_36 : decode cX8_isBetween 36 = .ok (.if_icmp .ne 20, 3) := by decide +kernel
theorem dX8_isBetween_39 : decode cX8_isBetween 39 = .ok (.aload_n 0, 1) := by decide +kernel
theorem dX8_isBetween_40 : decode cX8_isBetween 40 = .ok (.getfield 22, 3) := by decide +kernel
theorem dX8_isBetween_43 : decode cX8_isBetween 43 = .ok (.bipush 27, 2) := by decide +kernel
theorem dX8_isBetween_45 : decode cX8_isBetween 45 = .ok (.iload_n 1, 1) := by decide +kernel
theorem dX8_isBetween_46 : decode cX8_isBetween 46 = .ok (.iadd, 1) := by decide +kernel
theorem dX8_isBetween_47 : decode cX8_isBetween 47 = .ok (.iaload, 1) := by decide +kernel
theorem dX8_isBetween_48 : decode cX8_isBetween 48 = .ok (.iload_n 2, 1) := by decide +kernel
theorem dX8_isBetween_49 : decode cX8_isBetween 49 = .ok (.if_icmp .ne 7, 3) := by decide +kernel
theorem dX8_isBetween_52 : decode cX8_isBetween 52 = .ok (.iconst 1, 1) := by decide +kernel
theorem dX8_isBetween_53 : decode cX8_isBetween 53 = .ok (.goto 4, 3) := by decide +kernel
theorem dX8_isBetween_56 : decode cX8_isBetween 56 = .ok (.iconst 0, 1) := by decide +kernel
theorem dX8_isBetween_57 : decode cX8_isBetween 57 = .ok (.ireturn, 1) := by decide +kernel
set_option maxRecDepth 20000 in
theorem ggX8_heat_X8_has : GoodIn wsX8_heat wsX8_has := goodIn_r _ [5] (by decide +kernel) (by decide +kernel)
set_option maxRecDepth 20000 in
theorem gX8_heat_X8_has : GoodIn wsX8_heat (va_wsS RX8 104 yX8_has wsX8_has) := goodIn_app (goodIn_of _ (by decide +kernel)) ggX8_heat_X8_has
set_option maxRecDepth 20000 in
theorem ggX8_heat_X8_isBetween : GoodIn wsX8_heat wsX8_isBetween := goodIn_r _ [9, 1, 10, 11, 12, 13, 14, 15, 16, 17, 18, 19, 20, 21, 22, 23, 24, 25, 26] (by decide +kernel) (by decide +kernel)
set_option maxRecDepth 20000 in
theorem gX8_heat_X8_isBetween : GoodIn wsX8_heat (wsV RX8 108 RX8 yX8_isBetween wsX8_isBetween) := goodIn_app (goodIn_of _ (by decide +kernel)) ggX8_heat_X8_isBetween
theorem dX8_heat_0 : decode cX8_heat 0 = .ok (.iconst 0, 1) := by decide +kernel
theorem dX8_heat_1 : decode cX8_heat 1 = .ok (.istore_n 3, 1) := by decide +kernel
theorem dX8_heat_2 : decode cX8_heat 2 = .ok (.iconst 0, 1) := by decide +kernel
theorem dX8_heat_3 : decode cX8_heat 3 = .ok (.istore 4, 2) := by decide +kernel
theorem dX8_heat_5 : decode cX8_heat 5 = .ok (.iload 4, 2) := by decide +kernel
theorem dX8_heat_7 : decode cX8_heat 7 = .ok (.aload_n 0, 1) := by decide +kernel
theorem dX8_heat_8 : decode cX8_heat 8 = .ok (.getfield 22, 3) := by decide +kernel
theorem dX8_heat_11 : decode cX8_heat 11 = .ok (.iconst 0, 1) := by decide +kernel
theorem dX8_heat_12 : decode cX8_heat 12 = .ok (.iaload, 1) := by decide +kernel
theorem dX8_heat_13 : decode cX8_heat 13 = .ok (.if_icmp .ge 59, 3) := by decide +kernel
theorem dX8_heat_16 : decode cX8_heat 16 = .ok (.iload_n 3, 1) := by decide +kernel
theorem dX8_heat_17 : decode cX8_heat 17 = .ok (.iload 4, 2) := by decide +kernel
theorem dX8_heat_19 : decode cX8_heat 19 = .ok (.iload_n 1, 1) := by decide +kernel
theorem dX8_heat_20 : decode cX8_heat 20 = .ok (.if_icmp .eq 43, 3) := by decide +kernel
theorem dX8_heat_23 : decode cX8_heat 23 = .ok (.iload_n 2, 1) := by decide +kernel
theorem dX8_heat_24 : decode cX8_heat 24 = .ok (.iload 4, 2) := by decide +kernel
theorem dX8_heat_26 : decode cX8_heat 26 = .ok (.invokestatic 104, 3) := by decide +kernel
theorem dX8_heat_29 : decode cX8_heat 29 = .ok (.ifCond .eq 34, 3) := by decide +kernel
theorem dX8_heat_32 : decode cX8_heat 32 = .ok (.aload_n 0, 1) := by decide +kernel
theorem dX8_heat_33 : decode cX8_heat 33 = .ok (.iload 4, 2) := by decide +kernel
theorem dX8_heat_35 : decode cX8_heat 35 = .ok (.aload_n 0, 1) := by decide +kernel
theorem dX8_heat_36 : decode cX8_heat 36 = .ok (.getfield 22, 3) := by decide +kernel
theorem dX8_heat_39 : decode cX8_heat 39 = .ok (.bipush 15, 2) := by decide +kernel
theorem dX8_heat_41 : decode cX8_heat 41 = .ok (.iload_n 1, 1) := by decide +kernel
theorem dX8_heat_42 : decode cX8_heat 42 = .ok (.iadd, 1) := by decide +kernel
theorem dX8_heat_43 : decode cX8_heat 43 = .ok (.iaload, 1) := by decide +kernel
theorem dX8_heat_44 : decode cX8_heat 44 = .ok (.aload_n 0, 1) := by decide +kernel
theorem dX8_heat_45 : decode cX8_heat 45 = .ok (.getfield 22, 3) := by decide +kernel
theorem dX8_heat_48 : decode cX8_heat 48 = .ok (.bipush 27, 2) := by decide +kernel
theorem dX8_heat_50 : decode cX8_heat 50 = .ok (.iload_n 1, 1) := by decide +kernel
theorem dX8_heat_51 : decode cX8_heat 51 = .ok (.iadd, 1) := by decide +kernel
theorem dX8_heat_52 : decode cX8_heat 52 = .ok (.iaload, 1) := by decide +kernel
theorem dX8_heat_53 : decode cX8_heat 53 = .ok (.invokevirtual 108, 3) := by decide +kernel
theorem dX8_heat_56 : decode cX8_heat 56 = .ok (.ifCond .eq 7, 3) := by decide +kernel
theorem dX8_heat_59 : decode cX8_heat 59 = .ok (.iconst 1, 1) := by decide +kernel
theorem dX8_heat_60 : decode cX8_heat 60 = .ok (.goto 4, 3) := by decide +kernel
theorem dX8_heat_63 : decode cX8_heat 63 = .ok (.iconst 0, 1) := by decide +kernel
theorem dX8_heat_64 : decode cX8_heat 64 = .ok (.iadd, 1) := by decide +kernel
theorem dX8_heat_65 : decode cX8_heat 65 = .ok (.istore_n 3, 1) := by decide +kernel
theorem dX8_heat_66 : decode cX8_heat 66 = .ok (.iinc 4 1, 3) := by decide +kernel
theorem dX8_heat_69 : decode cX8_heat 69 = .ok (.goto (-64), 3) := by decide +kernel
theorem dX8_heat_72 : decode cX8_heat 72 = .ok (.iload_n 3, 1) := by decide +kernel
theorem dX8_heat_73 : decode cX8_heat 73 = .ok (.ireturn, 1) := by decide +kernel
set_option maxRecDepth 20000 in
theorem ggX8_price_X8_heat : GoodIn wsX8_price wsX8_heat := goodIn_r _ [6, 1, 7, 8, 5, 9, 10, 11, 12, 13, 14, 15, 16, 17, 18, 19, 20, 21, 22, 23, 24, 25, 26, 27, 28, 29, 30] (by decide +kernel) (by decide +kernel)
set_option maxRecDepth 20000 in
theorem gX8_price_X8_heat : GoodIn wsX8_price (wsV RX8 112 RX8 yX8_heat wsX8_heat) := goodIn_app (goodIn_of _ (by decide +kernel)) ggX8_price_X8_heat
theorem dX8_price_0 : decode cX8_price 0 = .ok (.aload_n 0, 1) := by decide +kernel
theorem dX8_price_1 : decode cX8_price 1 = .ok (.iload_n 1, 1) := by decide +kernel
theorem dX8_price_2 : decode cX8_price 2 = .ok (.iload_n 2, 1) := by decide +kernel
theorem dX8_price_3 : decode cX8_price 3 = .ok (.invokevirtual 112, 3) := by decide +kernel
theorem dX8_price_6 : decode cX8_price 6 = .ok (.istore_n 3, 1) := by decide +kernel
theorem dX8_price_7 : decode cX8_price 7 = .ok (.aload_n 0, 1) := by decide +kernel
theorem dX8_price_8 : decode cX8_price 8 = .ok (.getfield 22, 3) := by decide +kernel
theorem dX8_price_11 : decode cX8_price 11 = .ok (.iconst 3, 1) := by decide +kernel
theorem dX8_price_12 : decode cX8_price 12 = .ok (.iload_n 1, 1) := by decide +kernel
theorem dX8_price_13 : decode cX8_price 13 = .ok (.iadd, 1) := by decide +kernel
theorem dX8_price_14 : decode cX8_price 14 = .ok (.iaload, 1) := by decide +kernel
theorem dX8_price_15 : decode cX8_price 15 = .ok (.tableswitch 81 1 5 #[33, 81, 51, 65, 37], 33) := by decide +kernel
theorem dX8_price_48 : decode cX8_price 48 = .ok (.iload_n 3, 1) := by decide +kernel
theorem dX8_price_49 : decode cX8_price 49 = .ok (.iconst 1, 1) := by decide +kernel
theorem dX8_price_50 : decode cX8_price 50 = .ok (.iadd, 1) := by decide +kernel
theorem dX8_price_51 : decode cX8_price 51 = .ok (.ireturn, 1) := by decide +kernel
theorem dX8_price_52 : decode cX8_price 52 = .ok (.iload_n 3, 1) := by decide +kernel
theorem dX8_price_53 : decode cX8_price 53 = .ok (.iconst 1, 1) := by decide +kernel
theorem dX8_price_54 : decode cX8_price 54 = .ok (.iadd, 1) := by decide +kernel
theorem dX8_price_55 : decode cX8_price 55 = .ok (.aload_n 0, 1) := by decide +kernel
theorem dX8_price_56 : decode cX8_price 56 = .ok (.getfield 22, 3) := by decide +kernel
theorem dX8_price_59 : decode cX8_price 59 = .ok (.bipush 39, 2) := by decide +kernel
theorem dX8_price_61 : decode cX8_price 61 = .ok (.iload_n 1, 1) := by decide +kernel
theorem dX8_price_62 : decode cX8_price 62 = .ok (.iadd, 1) := by decide +kernel
theorem dX8_price_63 : decode cX8_price 63 = .ok (.iaload, 1) := by decide +kernel
theorem dX8_price_64 : decode cX8_price 64 = .ok (.iadd, 1) := by decide +kernel
theorem dX8_price_65 : decode cX8_price 65 = .ok (.ireturn, 1) := by decide +kernel
theorem dX8_price_66 : decode cX8_price 66 = .ok (.iload_n 3, 1) := by decide +kernel
theorem dX8_price_67 : decode cX8_price 67 = .ok (.iconst 2, 1) := by decide +kernel
theorem dX8_price_68 : decode cX8_price 68 = .ok (.aload_n 0, 1) := by decide +kernel
theorem dX8_price_69 : decode cX8_price 69 = .ok (.getfield 22, 3) := by decide +kernel
theorem dX8_price_72 : decode cX8_price 72 = .ok (.bipush 51, 2) := by decide +kernel
theorem dX8_price_74 : decode cX8_price 74 = .ok (.iload_n 1, 1) := by decide +kernel
theorem dX8_price_75 : decode cX8_price 75 = .ok (.iadd, 1) := by decide +kernel
theorem dX8_price_76 : decode cX8_price 76 = .ok (.iaload, 1) := by decide +kernel
theorem dX8_price_77 : decode cX8_price 77 = .ok (.imul, 1) := by decide +kernel
theorem dX8_price_78 : decode cX8_price 78 = .ok (.iadd, 1) := by decide +kernel
theorem dX8_price_79 : decode cX8_price 79 = .ok (.ireturn, 1) := by decide +kernel
theorem dX8_price_80 : decode cX8_price 80 = .ok (.iload_n 3, 1) := by decide +kernel
theorem dX8_price_81 : decode cX8_price 81 = .ok (.iconst 2, 1) := by decide +kernel
theorem dX8_price_82 : decode cX8_price 82 = .ok (.aload_n 0, 1) := by decide +kernel
theorem dX8_price_83 : decode cX8_price 83 = .ok (.getfield 22, 3) := by decide +kernel
theorem dX8_price_86 : decode cX8_price 86 = .ok (.bipush 51, 2) := by decide +kernel
theorem dX8_price_88 : decode cX8_price 88 = .ok (.iload_n 1, 1) := by decide +kernel
theorem dX8_price_89 : decode cX8_price 89 = .ok (.iadd, 1) := by decide +kernel
theorem dX8_price_90 : decode cX8_price 90 = .ok (.iaload, 1) := by decide +kernel
theorem dX8_price_91 : decode cX8_price 91 = .ok (.imul, 1) := by decide +kernel
theorem dX8_price_92 : decode cX8_price 92 = .ok (.iadd, 1) := by decide +kernel
theorem dX8_price_93 : decode cX8_price 93 = .ok (.iconst 2, 1) := by decide +kernel
theorem dX8_price_94 : decode cX8_price 94 = .ok (.idiv, 1) := by decide +kernel
theorem dX8_price_95 : decode cX8_price 95 = .ok (.ireturn, 1) := by decide +kernel
theorem dX8_price_96 : decode cX8_price 96 = .ok (.iload_n 3, 1) := by decide +kernel
theorem dX8_price_97 : decode cX8_price 97 = .ok (.aload_n 0, 1) := by decide +kernel
theorem dX8_price_98 : decode cX8_price 98 = .ok (.getfield 22, 3) := by decide +kernel
theorem dX8_price_101 : decode cX8_price 101 = .ok (.bipush 51, 2) := by decide +kernel
theorem dX8_price_103 : decode cX8_price 103 = .ok (.iload_n 1, 1) := by decide +kernel
theorem dX8_price_104 : decode cX8_price 104 = .ok (.iadd, 1) := by decide +kernel
theorem dX8_price_105 : decode cX8_price 105 = .ok (.iaload, 1) := by decide +kernel
theorem dX8_price_106 : decode cX8_price 106 = .ok (.iadd, 1) := by decide +kernel
theorem dX8_price_107 : decode cX8_price 107 = .ok (.ireturn, 1) := by decide +kernel
set_option maxRecDepth 20000 in
theorem ggX8_answering_X8_has : GoodIn wsX8_answering wsX8_has := goodIn_r _ [5] (by decide +kernel) (by decide +kernel)
set_option maxRecDepth 20000 in
theorem gX8_answering_X8_has : GoodIn wsX8_answering (va_wsS RX8 104 yX8_has wsX8_has) := goodIn_app (goodIn_of _ (by decide +kernel)) ggX8_answering_X8_has
theorem dX8_answering_0 : decode cX8_answering 0 = .ok (.iconst 0, 1) := by decide +kernel
theorem dX8_answering_1 : decode cX8_answering 1 = .ok (.istore_n 3, 1) := by decide +kernel
theorem dX8_answering_2 : decode cX8_answering 2 = .ok (.iconst 0, 1) := by decide +kernel
theorem dX8_answering_3 : decode cX8_answering 3 = .ok (.istore 4, 2) := by decide +kernel
theorem dX8_answering_5 : decode cX8_answering 5 = .ok (.iload 4, 2) := by decide +kernel
theorem dX8_answering_7 : decode cX8_answering 7 = .ok (.aload_n 0, 1) := by decide +kernel
theorem dX8_answering_8 : decode cX8_answering 8 = .ok (.getfield 22, 3) := by decide +kernel
theorem dX8_answering_11 : decode cX8_answering 11 = .ok (.iconst 0, 1) := by decide +kernel
theorem dX8_answering_12 : decode cX8_answering 12 = .ok (.iaload, 1) := by decide +kernel
theorem dX8_answering_13 : decode cX8_answering 13 = .ok (.if_icmp .ge 40, 3) := by decide +kernel
theorem dX8_answering_16 : decode cX8_answering 16 = .ok (.iload_n 3, 1) := by decide +kernel
theorem dX8_answering_17 : decode cX8_answering 17 = .ok (.iload_n 2, 1) := by decide +kernel
theorem dX8_answering_18 : decode cX8_answering 18 = .ok (.iload 4, 2) := by decide +kernel
theorem dX8_answering_20 : decode cX8_answering 20 = .ok (.invokestatic 104, 3) := by decide +kernel
theorem dX8_answering_23 : decode cX8_answering 23 = .ok (.ifCond .eq 21, 3) := by decide +kernel
theorem dX8_answering_26 : decode cX8_answering 26 = .ok (.aload_n 0, 1) := by decide +kernel
theorem dX8_answering_27 : decode cX8_answering 27 = .ok (.getfield 22, 3) := by decide +kernel
theorem dX8_answering_30 : decode cX8_answering 30 = .ok (.bipush 63, 2) := by decide +kernel
theorem dX8_answering_32 : decode cX8_answering 32 = .ok (.iload 4, 2) := by decide +kernel
theorem dX8_answering_34 : decode cX8_answering 34 = .ok (.iadd, 1) := by decide +kernel
theorem dX8_answering_35 : decode cX8_answering 35 = .ok (.iaload, 1) := by decide +kernel
theorem dX8_answering_36 : decode cX8_answering 36 = .ok (.iload_n 1, 1) := by decide +kernel
theorem dX8_answering_37 : decode cX8_answering 37 = .ok (.if_icmp .ne 7, 3) := by decide +kernel
theorem dX8_answering_40 : decode cX8_answering 40 = .ok (.iconst 1, 1) := by decide +kernel
theorem dX8_answering_41 : decode cX8_answering 41 = .ok (.goto 4, 3) := by decide +kernel
theorem dX8_answering_44 : decode cX8_answering 44 = .ok (.iconst 0, 1) := by decide +kernel
theorem dX8_answering_45 : decode cX8_answering 45 = .ok (.iadd, 1) := by decide +kernel
theorem dX8_answering_46 : decode cX8_answering 46 = .ok (.istore_n 3, 1) := by decide +kernel
theorem dX8_answering_47 : decode cX8_answering 47 = .ok (.iinc 4 1, 3) := by decide +kernel
theorem dX8_answering_50 : decode cX8_answering 50 = .ok (.goto (-45), 3) := by decide +kernel
theorem dX8_answering_53 : decode cX8_answering 53 = .ok (.iload_n 3, 1) := by decide +kernel
theorem dX8_answering_54 : decode cX8_answering 54 = .ok (.ireturn, 1) := by decide +kernel
set_option maxRecDepth 20000 in
theorem ggX8_mayBe_X8_has : GoodIn wsX8_mayBe wsX8_has := goodIn_r _ [5] (by decide +kernel) (by decide +kernel)
set_option maxRecDepth 20000 in
theorem gX8_mayBe_X8_has : GoodIn wsX8_mayBe (va_wsS RX8 104 yX8_has wsX8_has) := goodIn_app (goodIn_of _ (by decide +kernel)) ggX8_mayBe_X8_has
set_option maxRecDepth 20000 in
theorem ggX8_mayBe_X8_answering : GoodIn wsX8_mayBe wsX8_answering := goodIn_r _ [9, 1, 2, 3, 4, 5, 10, 11, 12, 13, 14, 15, 16, 17, 18, 19, 20, 21, 22, 23, 24, 25, 26] (by decide +kernel) (by decide +kernel)
set_option maxRecDepth 20000 in
theorem gX8_mayBe_X8_answering : GoodIn wsX8_mayBe (wsV RX8 116 RX8 yX8_answering wsX8_answering) := goodIn_app (goodIn_of _ (by decide +kernel)) ggX8_mayBe_X8_answering
theorem dX8_mayBe_0 : decode cX8_mayBe 0 = .ok (.iload_n 2, 1) := by decide +kernel
theorem dX8_mayBe_1 : decode cX8_mayBe 1 = .ok (.iload_n 1, 1) := by decide +kernel
theorem dX8_mayBe_2 : decode cX8_mayBe 2 = .ok (.invokestatic 104, 3) := by decide +kernel
theorem dX8_mayBe_5 : decode cX8_mayBe 5 = .ok (.ifCond .eq 28, 3) := by decide +kernel
theorem dX8_mayBe_8 : decode cX8_mayBe 8 = .ok (.aload_n 0, 1) := by decide +kernel
theorem dX8_mayBe_9 : decode cX8_mayBe 9 = .ok (.getfield 22, 3) := by decide +kernel
theorem dX8_mayBe_12 : decode cX8_mayBe 12 = .ok (.iconst 3, 1) := by decide +kernel
theorem dX8_mayBe_13 : decode cX8_mayBe 13 = .ok (.iload_n 1, 1) := by decide +kernel
theorem dX8_mayBe_14 : decode cX8_mayBe 14 = .ok (.iadd, 1) := by decide +kernel
theorem dX8_mayBe_15 : decode cX8_mayBe 15 = .ok (.iaload, 1) := by decide +kernel
theorem dX8_mayBe_16 : decode cX8_mayBe 16 = .ok (.iconst 4, 1) := by decide +kernel
theorem dX8_mayBe_17 : decode cX8_mayBe 17 = .ok (.if_icmp .eq 12, 3) := by decide +kernel
theorem dX8_mayBe_20 : decode cX8_mayBe 20 = .ok (.aload_n 0, 1) := by decide +kernel
theorem dX8_mayBe_21 : decode cX8_mayBe 21 = .ok (.iload_n 1, 1) := by decide +kernel
theorem dX8_mayBe_22 : decode cX8_mayBe 22 = .ok (.iload_n 2, 1) := by decide +kernel
theorem dX8_mayBe_23 : decode cX8_mayBe 23 = .ok (.invokevirtual 116, 3) := by decide +kernel
theorem dX8_mayBe_26 : decode cX8_mayBe 26 = .ok (.ifCond .ne 7, 3) := by decide +kernel
theorem dX8_mayBe_29 : decode cX8_mayBe 29 = .ok (.iconst 1, 1) := by decide +kernel
theorem dX8_mayBe_30 : decode cX8_mayBe 30 = .ok (.goto 4, 3) := by decide +kernel
theorem dX8_mayBe_33 : decode cX8_mayBe 33 = .ok (.iconst 0, 1) := by decide +kernel
theorem dX8_mayBe_34 : decode cX8_mayBe 34 = .ok (.ireturn, 1) := by decide +kernel
set_option maxRecDepth 20000 in
theorem ggX8_told_X8_price : GoodIn wsX8_told wsX8_price := goodIn_r _ [6, 1, 7, 8, 9, 5, 10, 11, 12, 13, 14, 15, 16, 17, 18, 19, 20, 21, 22, 23, 24, 25, 26, 27, 28, 29, 30, 31, 32, 33, 34] (by decide +kernel) (by decide +kernel)
set_option maxRecDepth 20000 in
theorem gX8_told_X8_price : GoodIn wsX8_told (wsV RX8 119 RX8 yX8_price wsX8_price) := goodIn_app (goodIn_of _ (by decide +kernel)) ggX8_told_X8_price
theorem dX8_told_0 : decode cX8_told 0 = .ok (.iload_n 2, 1) := by decide +kernel
theorem dX8_told_1 : decode cX8_told 1 = .ok (.bipush 6, 2) := by decide +kernel
theorem dX8_told_3 : decode cX8_told 3 = .ok (.if_icmp .ge 19, 3) := by decide +kernel
theorem dX8_told_6 : decode cX8_told 6 = .ok (.aload_n 0, 1) := by decide +kernel
theorem dX8_told_7 : decode cX8_told 7 = .ok (.getfield 22, 3) := by decide +kernel
theorem dX8_told_10 : decode cX8_told 10 = .ok (.iconst 3, 1) := by decide +kernel
theorem dX8_told_11 : decode cX8_told 11 = .ok (.bipush 12, 2) := by decide +kernel
theorem dX8_told_13 : decode cX8_told 13 = .ok (.iload_n 2, 1) := by decide +kernel
theorem dX8_told_14 : decode cX8_told 14 = .ok (.imul, 1) := by decide +kernel
theorem dX8_told_15 : decode cX8_told 15 = .ok (.iadd, 1) := by decide +kernel
theorem dX8_told_16 : decode cX8_told 16 = .ok (.iload_n 1, 1) := by decide +kernel
theorem dX8_told_17 : decode cX8_told 17 = .ok (.iadd, 1) := by decide +kernel
theorem dX8_told_18 : decode cX8_told 18 = .ok (.iaload, 1) := by decide +kernel
theorem dX8_told_19 : decode cX8_told 19 = .ok (.goto 33, 3) := by decide +kernel
theorem dX8_told_22 : decode cX8_told 22 = .ok (.iload_n 2, 1) := by decide +kernel
theorem dX8_told_23 : decode cX8_told 23 = .ok (.bipush 6, 2) := by decide +kernel
theorem dX8_told_25 : decode cX8_told 25 = .ok (.if_icmp .ne 16, 3) := by decide +kernel
theorem dX8_told_28 : decode cX8_told 28 = .ok (.aload_n 0, 1) := by decide +kernel
theorem dX8_told_29 : decode cX8_told 29 = .ok (.getfield 22, 3) := by decide +kernel
theorem dX8_told_32 : decode cX8_told 32 = .ok (.iconst 2, 1) := by decide +kernel
theorem dX8_told_33 : decode cX8_told 33 = .ok (.iaload, 1) := by decide +kernel
theorem dX8_told_34 : decode cX8_told 34 = .ok (.iload_n 1, 1) := by decide +kernel
theorem dX8_told_35 : decode cX8_told 35 = .ok (.ishr, 1) := by decide +kernel
theorem dX8_told_36 : decode cX8_told 36 = .ok (.iconst 1, 1) := by decide +kernel
theorem dX8_told_37 : decode cX8_told 37 = .ok (.iand, 1) := by decide +kernel
theorem dX8_told_38 : decode cX8_told 38 = .ok (.goto 14, 3) := by decide +kernel
theorem dX8_told_41 : decode cX8_told 41 = .ok (.aload_n 0, 1) := by decide +kernel
theorem dX8_told_42 : decode cX8_told 42 = .ok (.iload_n 1, 1) := by decide +kernel
theorem dX8_told_43 : decode cX8_told 43 = .ok (.aload_n 0, 1) := by decide +kernel
theorem dX8_told_44 : decode cX8_told 44 = .ok (.getfield 22, 3) := by decide +kernel
theorem dX8_told_47 : decode cX8_told 47 = .ok (.iconst 2, 1) := by decide +kernel
theorem dX8_told_48 : decode cX8_told 48 = .ok (.iaload, 1) := by decide +kernel
theorem dX8_told_49 : decode cX8_told 49 = .ok (.invokevirtual 119, 3) := by decide +kernel
theorem dX8_told_52 : decode cX8_told 52 = .ok (.ireturn, 1) := by decide +kernel
set_option maxRecDepth 20000 in
theorem ggX8_saying_X8_isSaying : GoodIn wsX8_saying wsX8_isSaying := goodIn_r _ [6, 7, 8, 9, 5, 10, 35, 36, 37, 38, 39, 40, 41, 42, 43, 44, 45, 46, 47, 48, 49, 50, 51] (by decide +kernel) (by decide +kernel)
set_option maxRecDepth 20000 in
theorem gX8_saying_X8_isSaying : GoodIn wsX8_saying (wsV RX8 122 RX8 yX8_isSaying wsX8_isSaying) := goodIn_app (goodIn_of _ (by decide +kernel)) ggX8_saying_X8_isSaying
set_option maxRecDepth 20000 in
theorem ggX8_saying_X8_in : GoodIn wsX8_saying wsX8_in := goodIn_r _ [10] (by decide +kernel) (by decide +kernel)
set_option maxRecDepth 20000 in
theorem gX8_saying_X8_in : GoodIn wsX8_saying (va_wsS RX8 61 yX8_in wsX8_in) := goodIn_app (goodIn_of _ (by decide +kernel)) ggX8_saying_X8_in
set_option maxRecDepth 20000 in
theorem ggX8_saying_X8_told : GoodIn wsX8_saying wsX8_told := goodIn_r _ [14, 7, 15, 16, 17, 5, 18, 19, 20, 21, 22, 23, 24, 25, 26, 27, 28, 29, 35, 36, 37, 38, 39, 40, 41, 42, 43, 44, 45, 46, 47, 48, 49, 50, 51] (by decide +kernel) (by decide +kernel)
set_option maxRecDepth 20000 in
theorem gX8_saying_X8_told : GoodIn wsX8_saying (wsV RX8 127 RX8 yX8_told wsX8_told) := goodIn_app (goodIn_of _ (by decide +kernel)) ggX8_saying_X8_told
set_option maxRecDepth 20000 in
theorem ggX8_saying_X8_tell : GoodIn wsX8_saying wsX8_tell := goodIn_r _ [33, 34, 35, 36, 37, 38, 39, 40, 41, 42, 43, 44, 45, 46, 47, 48, 49, 50, 51] (by decide +kernel) (by decide +kernel)
set_option maxRecDepth 20000 in
theorem gX8_saying_X8_tell : GoodIn wsX8_saying (wsV RX8 75 RX8 yX8_tell wsX8_tell) := goodIn_app (goodIn_of _ (by decide +kernel)) ggX8_saying_X8_tell
theorem dX8_saying_0 : decode cX8_saying 0 = .ok (.aload_n 0, 1) := by decide +kernel
theorem dX8_saying_1 : decode cX8_saying 1 = .ok (.iload_n 1, 1) := by decide +kernel
theorem dX8_saying_2 : decode cX8_saying 2 = .ok (.invokevirtual 122, 3) := by decide +kernel
theorem dX8_saying_5 : decode cX8_saying 5 = .ok (.ifCond .eq 28, 3) := by decide +kernel
theorem dX8_saying_8 : decode cX8_saying 8 = .ok (.iload_n 2, 1) := by decide +kernel
theorem dX8_saying_9 : decode cX8_saying 9 = .ok (.i2l, 1) := by decide +kernel
theorem dX8_saying_10 : decode cX8_saying 10 = .ok (.lconst 0, 1) := by decide +kernel
theorem dX8_saying_11 : decode cX8_saying 11 = .ok (.ldc2_w 125, 3) := by decide +kernel
theorem dX8_saying_14 : decode cX8_saying 14 = .ok (.invokestatic 61, 3) := by decide +kernel
theorem dX8_saying_17 : decode cX8_saying 17 = .ok (.ifCond .eq 16, 3) := by decide +kernel
theorem dX8_saying_20 : decode cX8_saying 20 = .ok (.aload_n 0, 1) := by decide +kernel
theorem dX8_saying_21 : decode cX8_saying 21 = .ok (.aload_n 0, 1) := by decide +kernel
theorem dX8_saying_22 : decode cX8_saying 22 = .ok (.iload_n 1, 1) := by decide +kernel
theorem dX8_saying_23 : decode cX8_saying 23 = .ok (.iload_n 2, 1) := by decide +kernel
theorem dX8_saying_24 : decode cX8_saying 24 = .ok (.invokevirtual 127, 3) := by decide +kernel
theorem dX8_saying_27 : decode cX8_saying 27 = .ok (.invokevirtual 75, 3) := by decide +kernel
theorem dX8_saying_30 : decode cX8_saying 30 = .ok (.goto 4, 3) := by decide +kernel
theorem dX8_saying_33 : decode cX8_saying 33 = .ok (.iconst (-1), 1) := by decide +kernel
theorem dX8_saying_34 : decode cX8_saying 34 = .ok (.ireturn, 1) := by decide +kernel
theorem dX8_leansOf_0 : decode cX8_leansOf 0 = .ok (.iconst 0, 1) := by decide +kernel
theorem dX8_leansOf_1 : decode cX8_leansOf 1 = .ok (.istore_n 2, 1) := by decide +kernel
theorem dX8_leansOf_2 : decode cX8_leansOf 2 = .ok (.aload_n 0, 1) := by decide +kernel
theorem dX8_leansOf_3 : decode cX8_leansOf 3 = .ok (.getfield 22, 3) := by decide +kernel
theorem dX8_leansOf_6 : decode cX8_leansOf 6 = .ok (.bipush 63, 2) := by decide +kernel
theorem dX8_leansOf_8 : decode cX8_leansOf 8 = .ok (.iload_n 1, 1) := by decide +kernel
theorem dX8_leansOf_9 : decode cX8_leansOf 9 = .ok (.iadd, 1) := by decide +kernel
theorem dX8_leansOf_10 : decode cX8_leansOf 10 = .ok (.iaload, 1) := by decide +kernel
theorem dX8_leansOf_11 : decode cX8_leansOf 11 = .ok (.istore_n 3, 1) := by decide +kernel
theorem dX8_leansOf_12 : decode cX8_leansOf 12 = .ok (.iload_n 3, 1) := by decide +kernel
theorem dX8_leansOf_13 : decode cX8_leansOf 13 = .ok (.bipush (-9), 2) := by decide +kernel
theorem dX8_leansOf_15 : decode cX8_leansOf 15 = .ok (.if_icmp .eq 22, 3) := by decide +kernel
theorem dX8_leansOf_18 : decode cX8_leansOf 18 = .ok (.iload_n 2, 1) := by decide +kernel
theorem dX8_leansOf_19 : decode cX8_leansOf 19 = .ok (.iconst 1, 1) := by decide +kernel
theorem dX8_leansOf_20 : decode cX8_leansOf 20 = .ok (.iload_n 3, 1) := by decide +kernel
theorem dX8_leansOf_21 : decode cX8_leansOf 21 = .ok (.ishl, 1) := by decide +kernel
theorem dX8_leansOf_22 : decode cX8_leansOf 22 = .ok (.ior, 1) := by decide +kernel
theorem dX8_leansOf_23 : decode cX8_leansOf 23 = .ok (.istore_n 2, 1) := by decide +kernel
theorem dX8_leansOf_24 : decode cX8_leansOf 24 = .ok (.aload_n 0, 1) := by decide +kernel
theorem dX8_leansOf_25 : decode cX8_leansOf 25 = .ok (.getfield 22, 3) := by decide +kernel
theorem dX8_leansOf_28 : decode cX8_leansOf 28 = .ok (.bipush 63, 2) := by decide +kernel
theorem dX8_leansOf_30 : decode cX8_leansOf 30 = .ok (.iload_n 3, 1) := by decide +kernel
theorem dX8_leansOf_31 : decode cX8_leansOf 31 = .ok (.iadd, 1) := by decide +kernel
theorem dX8_leansOf_32 : decode cX8_leansOf 32 = .ok (.iaload, 1) := by decide +kernel
theorem dX8_leansOf_33 : decode cX8_leansOf 33 = .ok (.istore_n 3, 1) := by decide +kernel
theorem dX8_leansOf_34 : decode cX8_leansOf 34 = .ok (.goto (-22), 3) := by decide +kernel
theorem dX8_leansOf_37 : decode cX8_leansOf 37 = .ok (.iload_n 2, 1) := by decide +kernel
theorem dX8_leansOf_38 : decode cX8_leansOf 38 = .ok (.ireturn, 1) := by decide +kernel
theorem dX8_rootOf_0 : decode cX8_rootOf 0 = .ok (.iload_n 1, 1) := by decide +kernel
theorem dX8_rootOf_1 : decode cX8_rootOf 1 = .ok (.istore_n 2, 1) := by decide +kernel
theorem dX8_rootOf_2 : decode cX8_rootOf 2 = .ok (.aload_n 0, 1) := by decide +kernel
theorem dX8_rootOf_3 : decode cX8_rootOf 3 = .ok (.getfield 22, 3) := by decide +kernel
theorem dX8_rootOf_6 : decode cX8_rootOf 6 = .ok (.bipush 63, 2) := by decide +kernel
theorem dX8_rootOf_8 : decode cX8_rootOf 8 = .ok (.iload_n 2, 1) := by decide +kernel
theorem dX8_rootOf_9 : decode cX8_rootOf 9 = .ok (.iadd, 1) := by decide +kernel
theorem dX8_rootOf_10 : decode cX8_rootOf 10 = .ok (.iaload, 1) := by decide +kernel
theorem dX8_rootOf_11 : decode cX8_rootOf 11 = .ok (.bipush (-9), 2) := by decide +kernel
theorem dX8_rootOf_13 : decode cX8_rootOf 13 = .ok (.if_icmp .eq 16, 3) := by decide +kernel
theorem dX8_rootOf_16 : decode cX8_rootOf 16 = .ok (.aload_n 0, 1) := by decide +kernel
theorem dX8_rootOf_17 : decode cX8_rootOf 17 = .ok (.getfield 22, 3) := by decide +kernel
theorem dX8_rootOf_20 : decode cX8_rootOf 20 = .ok (.bipush 63, 2) := by decide +kernel
theorem dX8_rootOf_22 : decode cX8_rootOf 22 = .ok (.iload_n 2, 1) := by decide +kernel
theorem dX8_rootOf_23 : decode cX8_rootOf 23 = .ok (.iadd, 1) := by decide +kernel
theorem dX8_rootOf_24 : decode cX8_rootOf 24 = .ok (.iaload, 1) := by decide +kernel
theorem dX8_rootOf_25 : decode cX8_rootOf 25 = .ok (.istore_n 2, 1) := by decide +kernel
theorem dX8_rootOf_26 : decode cX8_rootOf 26 = .ok (.goto (-24), 3) := by decide +kernel
theorem dX8_rootOf_29 : decode cX8_rootOf 29 = .ok (.iload_n 2, 1) := by decide +kernel
theorem dX8_rootOf_30 : decode cX8_rootOf 30 = .ok (.ireturn, 1) := by decide +kernel
theorem dX8_handsOf_0 : decode cX8_handsOf 0 = .ok (.aload_n 0, 1) := by decide +kernel
theorem dX8_handsOf_1 : decode cX8_handsOf 1 = .ok (.getfield 22, 3) := by decide +kernel
theorem dX8_handsOf_4 : decode cX8_handsOf 4 = .ok (.bipush 63, 2) := by decide +kernel
theorem dX8_handsOf_6 : decode cX8_handsOf 6 = .ok (.iload_n 1, 1) := by decide +kernel
theorem dX8_handsOf_7 : decode cX8_handsOf 7 = .ok (.iadd, 1) := by decide +kernel
theorem dX8_handsOf_8 : decode cX8_handsOf 8 = .ok (.iaload, 1) := by decide +kernel
theorem dX8_handsOf_9 : decode cX8_handsOf 9 = .ok (.istore_n 2, 1) := by decide +kernel
theorem dX8_handsOf_10 : decode cX8_handsOf 10 = .ok (.iload_n 2, 1) := by decide +kernel
theorem dX8_handsOf_11 : decode cX8_handsOf 11 = .ok (.bipush (-9), 2) := by decide +kernel
theorem dX8_handsOf_13 : decode cX8_handsOf 13 = .ok (.if_icmp .ne 8, 3) := by decide +kernel
theorem dX8_handsOf_16 : decode cX8_handsOf 16 = .ok (.bipush 63, 2) := by decide +kernel
theorem dX8_handsOf_18 : decode cX8_handsOf 18 = .ok (.goto 4, 3) := by decide +kernel
theorem dX8_handsOf_21 : decode cX8_handsOf 21 = .ok (.iconst 0, 1) := by decide +kernel
theorem dX8_handsOf_22 : decode cX8_handsOf 22 = .ok (.istore_n 3, 1) := by decide +kernel
theorem dX8_handsOf_23 : decode cX8_handsOf 23 = .ok (.iconst 0, 1) := by decide +kernel
theorem dX8_handsOf_24 : decode cX8_handsOf 24 = .ok (.istore 4, 2) := by decide +kernel
theorem dX8_handsOf_26 : decode cX8_handsOf 26 = .ok (.iload 4, 2) := by decide +kernel
theorem dX8_handsOf_28 : decode cX8_handsOf 28 = .ok (.iload_n 1, 1) := by decide +kernel
theorem dX8_handsOf_29 : decode cX8_handsOf 29 = .ok (.if_icmp .ge 24, 3) := by decide +kernel
theorem dX8_handsOf_32 : decode cX8_handsOf 32 = .ok (.iload_n 3, 1) := by decide +kernel
theorem dX8_handsOf_33 : decode cX8_handsOf 33 = .ok (.iconst 1, 1) := by decide +kernel
theorem dX8_handsOf_34 : decode cX8_handsOf 34 = .ok (.aload_n 0, 1) := by decide +kernel
theorem dX8_handsOf_35 : decode cX8_handsOf 35 = .ok (.getfield 22, 3) := by decide +kernel
theorem dX8_handsOf_38 : decode cX8_handsOf 38 = .ok (.bipush 27, 2) := by decide +kernel
theorem dX8_handsOf_40 : decode cX8_handsOf 40 = .ok (.iload 4, 2) := by decide +kernel
theorem dX8_handsOf_42 : decode cX8_handsOf 42 = .ok (.iadd, 1) := by decide +kernel
theorem dX8_handsOf_43 : decode cX8_handsOf 43 = .ok (.iaload, 1) := by decide +kernel
theorem dX8_handsOf_44 : decode cX8_handsOf 44 = .ok (.ishl, 1) := by decide +kernel
theorem dX8_handsOf_45 : decode cX8_handsOf 45 = .ok (.ior, 1) := by decide +kernel
theorem dX8_handsOf_46 : decode cX8_handsOf 46 = .ok (.istore_n 3, 1) := by decide +kernel
theorem dX8_handsOf_47 : decode cX8_handsOf 47 = .ok (.iinc 4 1, 3) := by decide +kernel
theorem dX8_handsOf_50 : decode cX8_handsOf 50 = .ok (.goto (-24), 3) := by decide +kernel
theorem dX8_handsOf_53 : decode cX8_handsOf 53 = .ok (.iconst 1, 1) := by decide +kernel
theorem dX8_handsOf_54 : decode cX8_handsOf 54 = .ok (.aload_n 0, 1) := by decide +kernel
theorem dX8_handsOf_55 : decode cX8_handsOf 55 = .ok (.getfield 22, 3) := by decide +kernel
theorem dX8_handsOf_58 : decode cX8_handsOf 58 = .ok (.bipush 27, 2) := by decide +kernel
theorem dX8_handsOf_60 : decode cX8_handsOf 60 = .ok (.iload_n 1, 1) := by decide +kernel
theorem dX8_handsOf_61 : decode cX8_handsOf 61 = .ok (.iadd, 1) := by decide +kernel
theorem dX8_handsOf_62 : decode cX8_handsOf 62 = .ok (.iaload, 1) := by decide +kernel
theorem dX8_handsOf_63 : decode cX8_handsOf 63 = .ok (.ishl, 1) := by decide +kernel
theorem dX8_handsOf_64 : decode cX8_handsOf 64 = .ok (.iload_n 2, 1) := by decide +kernel
theorem dX8_handsOf_65 : decode cX8_handsOf 65 = .ok (.bipush (-9), 2) := by decide +kernel
theorem dX8_handsOf_67 : decode cX8_handsOf 67 = .ok (.if_icmp .ne 7, 3) := by decide +kernel
theorem dX8_handsOf_70 : decode cX8_handsOf 70 = .ok (.iconst 0, 1) := by decide +kernel
theorem dX8_handsOf_71 : decode cX8_handsOf 71 = .ok (.goto 14, 3) := by decide +kernel
theorem dX8_handsOf_74 : decode cX8_handsOf 74 = .ok (.iconst 1, 1) := by decide +kernel
theorem dX8_handsOf_75 : decode cX8_handsOf 75 = .ok (.aload_n 0, 1) := by decide +kernel
theorem dX8_handsOf_76 : decode cX8_handsOf 76 = .ok (.getfield 22, 3) := by decide +kernel
theorem dX8_handsOf_79 : decode cX8_handsOf 79 = .ok (.bipush 15, 2) := by decide +kernel
theorem dX8_handsOf_81 : decode cX8_handsOf 81 = .ok (.iload_n 2, 1) := by decide +kernel
theorem dX8_handsOf_82 : decode cX8_handsOf 82 = .ok (.iadd, 1) := by decide +kernel
theorem dX8_handsOf_83 : decode cX8_handsOf 83 = .ok (.iaload, 1) := by decide +kernel
theorem dX8_handsOf_84 : decode cX8_handsOf 84 = .ok (.ishl, 1) := by decide +kernel
theorem dX8_handsOf_85 : decode cX8_handsOf 85 = .ok (.ior, 1) := by decide +kernel
theorem dX8_handsOf_86 : decode cX8_handsOf 86 = .ok (.istore 4, 2) := by decide +kernel
theorem dX8_handsOf_88 : decode cX8_handsOf 88 = .ok (.iload_n 3, 1) := by decide +kernel
theorem dX8_handsOf_89 : decode cX8_handsOf 89 = .ok (.iload 4, 2) := by decide +kernel
theorem dX8_handsOf_91 : decode cX8_handsOf 91 = .ok (.iconst (-1), 1) := by decide +kernel
theorem dX8_handsOf_92 : decode cX8_handsOf 92 = .ok (.ixor, 1) := by decide +kernel
theorem dX8_handsOf_93 : decode cX8_handsOf 93 = .ok (.iand, 1) := by decide +kernel
theorem dX8_handsOf_94 : decode cX8_handsOf 94 = .ok (.ireturn, 1) := by decide +kernel
set_option maxRecDepth 20000 in
theorem ggX8_mark_X8_isSaying : GoodIn wsX8_mark wsX8_isSaying := goodIn_r _ [7, 2, 8, 9, 6, 10, 50, 51, 52, 53, 54, 55, 56, 57, 58, 59, 60, 61, 62, 63, 64, 65, 66] (by decide +kernel) (by decide +kernel)
set_option maxRecDepth 20000 in
theorem gX8_mark_X8_isSaying : GoodIn wsX8_mark (wsV RX8 122 RX8 yX8_isSaying wsX8_isSaying) := goodIn_app (goodIn_of _ (by decide +kernel)) ggX8_mark_X8_isSaying
set_option maxRecDepth 20000 in
theorem ggX8_mark_X8_in : GoodIn wsX8_mark wsX8_in := goodIn_r _ [10] (by decide +kernel) (by decide +kernel)
set_option maxRecDepth 20000 in
theorem gX8_mark_X8_in : GoodIn wsX8_mark (va_wsS RX8 61 yX8_in wsX8_in) := goodIn_app (goodIn_of _ (by decide +kernel)) ggX8_mark_X8_in
set_option maxRecDepth 20000 in
theorem ggX8_mark_X8_isOf : GoodIn wsX8_mark wsX8_isOf := goodIn_r _ [13] (by decide +kernel) (by decide +kernel)
set_option maxRecDepth 20000 in
theorem gX8_mark_X8_isOf : GoodIn wsX8_mark (va_wsS RX8 130 yX8_isOf wsX8_isOf) := goodIn_app (goodIn_of _ (by decide +kernel)) ggX8_mark_X8_isOf
set_option maxRecDepth 20000 in
theorem ggX8_mark_X8_found : GoodIn wsX8_mark wsX8_found := goodIn_r _ [17, 18, 19, 50, 51, 52, 53, 54, 55, 56, 57, 58, 59, 60, 61, 62, 63, 64, 65, 66] (by decide +kernel) (by decide +kernel)
set_option maxRecDepth 20000 in
theorem gX8_mark_X8_found : GoodIn wsX8_mark (wsV RX8 71 RX8 yX8_found wsX8_found) := goodIn_app (goodIn_of _ (by decide +kernel)) ggX8_mark_X8_found
set_option maxRecDepth 20000 in
theorem ggX8_mark_X8_heat : GoodIn wsX8_mark wsX8_heat := goodIn_r _ [23, 2, 24, 25, 6, 26, 27, 28, 29, 30, 50, 51, 52, 53, 54, 55, 56, 57, 58, 59, 60, 61, 62, 63, 64, 65, 66] (by decide +kernel) (by decide +kernel)
set_option maxRecDepth 20000 in
theorem gX8_mark_X8_heat : GoodIn wsX8_mark (wsV RX8 112 RX8 yX8_heat wsX8_heat) := goodIn_app (goodIn_of _ (by decide +kernel)) ggX8_mark_X8_heat
set_option maxRecDepth 20000 in
theorem ggX8_mark_X8_handsOf : GoodIn wsX8_mark wsX8_handsOf := goodIn_r _ [34, 2, 50, 51, 52, 53, 54, 55, 56, 57, 58, 59, 60, 61, 62, 63, 64, 65, 66] (by decide +kernel) (by decide +kernel)
set_option maxRecDepth 20000 in
theorem gX8_mark_X8_handsOf : GoodIn wsX8_mark (wsV RX8 133 RX8 yX8_handsOf wsX8_handsOf) := goodIn_app (goodIn_of _ (by decide +kernel)) ggX8_mark_X8_handsOf
set_option maxRecDepth 20000 in
theorem ggX8_mark_X8_bits : GoodIn wsX8_mark wsX8_bits := goodIn_r _ [37] (by decide +kernel) (by decide +kernel)
set_option maxRecDepth 20000 in
theorem gX8_mark_X8_bits : GoodIn wsX8_mark (va_wsS RX8 136 yX8_bits wsX8_bits) := goodIn_app (goodIn_of _ (by decide +kernel)) ggX8_mark_X8_bits
set_option maxRecDepth 20000 in
theorem ggX8_mark_X8_price : GoodIn wsX8_mark wsX8_price := goodIn_r _ [41, 2, 20, 21, 22, 6, 23, 24, 25, 26, 27, 28, 29, 30, 50, 51, 52, 53, 54, 55, 56, 57, 58, 59, 60, 61, 62, 63, 64, 65, 66] (by decide +kernel) (by decide +kernel)
set_option maxRecDepth 20000 in
theorem gX8_mark_X8_price : GoodIn wsX8_mark (wsV RX8 119 RX8 yX8_price wsX8_price) := goodIn_app (goodIn_of _ (by decide +kernel)) ggX8_mark_X8_price
set_option maxRecDepth 20000 in
theorem ggX8_mark_X8_answering : GoodIn wsX8_mark wsX8_answering := goodIn_r _ [45, 2, 24, 25, 6, 26, 50, 51, 52, 53, 54, 55, 56, 57, 58, 59, 60, 61, 62, 63, 64, 65, 66] (by decide +kernel) (by decide +kernel)
set_option maxRecDepth 20000 in
theorem gX8_mark_X8_answering : GoodIn wsX8_mark (wsV RX8 116 RX8 yX8_answering wsX8_answering) := goodIn_app (goodIn_of _ (by decide +kernel)) ggX8_mark_X8_answering
set_option maxRecDepth 20000 in
theorem ggX8_mark_X8_rootOf : GoodIn wsX8_mark wsX8_rootOf := goodIn_r _ [49, 2, 50, 51, 52, 53, 54, 55, 56, 57, 58, 59, 60, 61, 62, 63, 64, 65, 66] (by decide +kernel) (by decide +kernel)
set_option maxRecDepth 20000 in
theorem gX8_mark_X8_rootOf : GoodIn wsX8_mark (wsV RX8 139 RX8 yX8_rootOf wsX8_rootOf) := goodIn_app (goodIn_of _ (by decide +kernel)) ggX8_mark_X8_rootOf
theorem dX8_mark_0 : decode cX8_mark 0 = .ok (.aload_n 0, 1) := by decide +kernel
theorem dX8_mark_1 : decode cX8_mark 1 = .ok (.iload_n 1, 1) := by decide +kernel
theorem dX8_mark_2 : decode cX8_mark 2 = .ok (.invokevirtual 122, 3) := by decide +kernel
theorem dX8_mark_5 : decode cX8_mark 5 = .ok (.ifCond .eq 15, 3) := by decide +kernel
theorem dX8_mark_8 : decode cX8_mark 8 = .ok (.iload_n 2, 1) := by decide +kernel
theorem dX8_mark_9 : decode cX8_mark 9 = .ok (.i2l, 1) := by decide +kernel
theorem dX8_mark_10 : decode cX8_mark 10 = .ok (.lconst 1, 1) := by decide +kernel
theorem dX8_mark_11 : decode cX8_mark 11 = .ok (.ldc2_w 59, 3) := by decide +kernel
theorem dX8_mark_14 : decode cX8_mark 14 = .ok (.invokestatic 61, 3) := by decide +kernel
theorem dX8_mark_17 : decode cX8_mark 17 = .ok (.ifCond .ne 5, 3) := by decide +kernel
theorem dX8_mark_20 : decode cX8_mark 20 = .ok (.iconst (-1), 1) := by decide +kernel
theorem dX8_mark_21 : decode cX8_mark 21 = .ok (.ireturn, 1) := by decide +kernel
theorem dX8_mark_22 : decode cX8_mark 22 = .ok (.aload_n 0, 1) := by decide +kernel
theorem dX8_mark_23 : decode cX8_mark 23 = .ok (.getfield 22, 3) := by decide +kernel
theorem dX8_mark_26 : decode cX8_mark 26 = .ok (.iconst 3, 1) := by decide +kernel
theorem dX8_mark_27 : decode cX8_mark 27 = .ok (.iload_n 1, 1) := by decide +kernel
theorem dX8_mark_28 : decode cX8_mark 28 = .ok (.iadd, 1) := by decide +kernel
theorem dX8_mark_29 : decode cX8_mark 29 = .ok (.iaload, 1) := by decide +kernel
theorem dX8_mark_30 : decode cX8_mark 30 = .ok (.iload_n 2, 1) := by decide +kernel
theorem dX8_mark_31 : decode cX8_mark 31 = .ok (.invokestatic 130, 3) := by decide +kernel
theorem dX8_mark_34 : decode cX8_mark 34 = .ok (.ifCond .ne 9, 3) := by decide +kernel
theorem dX8_mark_37 : decode cX8_mark 37 = .ok (.aload_n 0, 1) := by decide +kernel
theorem dX8_mark_38 : decode cX8_mark 38 = .ok (.iconst 3, 1) := by decide +kernel
theorem dX8_mark_39 : decode cX8_mark 39 = .ok (.invokevirtual 71, 3) := by decide +kernel
theorem dX8_mark_42 : decode cX8_mark 42 = .ok (.ireturn, 1) := by decide +kernel
theorem dX8_mark_43 : decode cX8_mark 43 = .ok (.iload_n 2, 1) := by decide +kernel
theorem dX8_mark_44 : decode cX8_mark 44 = .ok (.tableswitch 101 1 4 #[32, 43, 52, 89], 32) := by decide +kernel
theorem dX8_mark_76 : decode cX8_mark 76 = .ok (.aload_n 0, 1) := by decide +kernel
theorem dX8_mark_77 : decode cX8_mark 77 = .ok (.iload_n 1, 1) := by decide +kernel
theorem dX8_mark_78 : decode cX8_mark 78 = .ok (.iconst 1, 1) := by decide +kernel
theorem dX8_mark_79 : decode cX8_mark 79 = .ok (.iload_n 1, 1) := by decide +kernel
theorem dX8_mark_80 : decode cX8_mark 80 = .ok (.ishl, 1) := by decide +kernel
theorem dX8_mark_81 : decode cX8_mark 81 = .ok (.iconst 1, 1) := by decide +kernel
theorem dX8_mark_82 : decode cX8_mark 82 = .ok (.isub, 1) := by decide +kernel
theorem dX8_mark_83 : decode cX8_mark 83 = .ok (.invokevirtual 112, 3) := by decide +kernel
theorem dX8_mark_86 : decode cX8_mark 86 = .ok (.ireturn, 1) := by decide +kernel
theorem dX8_mark_87 : decode cX8_mark 87 = .ok (.aload_n 0, 1) := by decide +kernel
theorem dX8_mark_88 : decode cX8_mark 88 = .ok (.iload_n 1, 1) := by decide +kernel
theorem dX8_mark_89 : decode cX8_mark 89 = .ok (.invokevirtual 133, 3) := by decide +kernel
theorem dX8_mark_92 : decode cX8_mark 92 = .ok (.invokestatic 136, 3) := by decide +kernel
theorem dX8_mark_95 : decode cX8_mark 95 = .ok (.ireturn, 1) := by decide +kernel
theorem dX8_mark_96 : decode cX8_mark 96 = .ok (.aload_n 0, 1) := by decide +kernel
theorem dX8_mark_97 : decode cX8_mark 97 = .ok (.iload_n 1, 1) := by decide +kernel
theorem dX8_mark_98 : decode cX8_mark 98 = .ok (.aload_n 0, 1) := by decide +kernel
theorem dX8_mark_99 : decode cX8_mark 99 = .ok (.getfield 22, 3) := by decide +kernel
theorem dX8_mark_102 : decode cX8_mark 102 = .ok (.iconst 2, 1) := by decide +kernel
theorem dX8_mark_103 : decode cX8_mark 103 = .ok (.iaload, 1) := by decide +kernel
theorem dX8_mark_104 : decode cX8_mark 104 = .ok (.invokevirtual 119, 3) := by decide +kernel
theorem dX8_mark_107 : decode cX8_mark 107 = .ok (.aload_n 0, 1) := by decide +kernel
theorem dX8_mark_108 : decode cX8_mark 108 = .ok (.iload_n 1, 1) := by decide +kernel
theorem dX8_mark_109 : decode cX8_mark 109 = .ok (.aload_n 0, 1) := by decide +kernel
theorem dX8_mark_110 : decode cX8_mark 110 = .ok (.getfield 22, 3) := by decide +kernel
theorem dX8_mark_113 : decode cX8_mark 113 = .ok (.iconst 2, 1) := by decide +kernel
theorem dX8_mark_114 : decode cX8_mark 114 = .ok (.iaload, 1) := by decide +kernel
theorem dX8_mark_115 : decode cX8_mark 115 = .ok (.invokevirtual 112, 3) := by decide +kernel
theorem dX8_mark_118 : decode cX8_mark 118 = .ok (.isub, 1) := by decide +kernel
theorem dX8_mark_119 : decode cX8_mark 119 = .ok (.aload_n 0, 1) := by decide +kernel
theorem dX8_mark_120 : decode cX8_mark 120 = .ok (.getfield 22, 3) := by decide +kernel
theorem dX8_mark_123 : decode cX8_mark 123 = .ok (.bipush 51, 2) := by decide +kernel
theorem dX8_mark_125 : decode cX8_mark 125 = .ok (.iload_n 1, 1) := by decide +kernel
theorem dX8_mark_126 : decode cX8_mark 126 = .ok (.iadd, 1) := by decide +kernel
theorem dX8_mark_127 : decode cX8_mark 127 = .ok (.iaload, 1) := by decide +kernel
theorem dX8_mark_128 : decode cX8_mark 128 = .ok (.isub, 1) := by decide +kernel
theorem dX8_mark_129 : decode cX8_mark 129 = .ok (.bipush 100, 2) := by decide +kernel
theorem dX8_mark_131 : decode cX8_mark 131 = .ok (.iadd, 1) := by decide +kernel
theorem dX8_mark_132 : decode cX8_mark 132 = .ok (.ireturn, 1) := by decide +kernel
theorem dX8_mark_133 : decode cX8_mark 133 = .ok (.aload_n 0, 1) := by decide +kernel
theorem dX8_mark_134 : decode cX8_mark 134 = .ok (.iload_n 1, 1) := by decide +kernel
theorem dX8_mark_135 : decode cX8_mark 135 = .ok (.aload_n 0, 1) := by decide +kernel
theorem dX8_mark_136 : decode cX8_mark 136 = .ok (.getfield 22, 3) := by decide +kernel
theorem dX8_mark_139 : decode cX8_mark 139 = .ok (.iconst 2, 1) := by decide +kernel
theorem dX8_mark_140 : decode cX8_mark 140 = .ok (.iaload, 1) := by decide +kernel
theorem dX8_mark_141 : decode cX8_mark 141 = .ok (.invokevirtual 116, 3) := by decide +kernel
theorem dX8_mark_144 : decode cX8_mark 144 = .ok (.ireturn, 1) := by decide +kernel
theorem dX8_mark_145 : decode cX8_mark 145 = .ok (.iconst 0, 1) := by decide +kernel
theorem dX8_mark_146 : decode cX8_mark 146 = .ok (.istore_n 3, 1) := by decide +kernel
theorem dX8_mark_147 : decode cX8_mark 147 = .ok (.iconst 0, 1) := by decide +kernel
theorem dX8_mark_148 : decode cX8_mark 148 = .ok (.istore 4, 2) := by decide +kernel
theorem dX8_mark_150 : decode cX8_mark 150 = .ok (.iload 4, 2) := by decide +kernel
theorem dX8_mark_152 : decode cX8_mark 152 = .ok (.aload_n 0, 1) := by decide +kernel
theorem dX8_mark_153 : decode cX8_mark 153 = .ok (.getfield 22, 3) := by decide +kernel
theorem dX8_mark_156 : decode cX8_mark 156 = .ok (.iconst 0, 1) := by decide +kernel
theorem dX8_mark_157 : decode cX8_mark 157 = .ok (.iaload, 1) := by decide +kernel
theorem dX8_mark_158 : decode cX8_mark 158 = .ok (.if_icmp .ge 53, 3) := by decide +kernel
theorem dX8_mark_161 : decode cX8_mark 161 = .ok (.iload_n 3, 1) := by decide +kernel
theorem dX8_mark_162 : decode cX8_mark 162 = .ok (.aload_n 0, 1) := by decide +kernel
theorem dX8_mark_163 : decode cX8_mark 163 = .ok (.iload 4, 2) := by decide +kernel
theorem dX8_mark_165 : decode cX8_mark 165 = .ok (.invokevirtual 139, 3) := by decide +kernel
theorem dX8_mark_168 : decode cX8_mark 168 = .ok (.aload_n 0, 1) := by decide +kernel
theorem dX8_mark_169 : decode cX8_mark 169 = .ok (.iload_n 1, 1) := by decide +kernel
theorem dX8_mark_170 : decode cX8_mark 170 = .ok (.invokevirtual 139, 3) := by decide +kernel
theorem dX8_mark_173 : decode cX8_mark 173 = .ok (.if_icmp .ne 29, 3) := by decide +kernel
theorem dX8_mark_176 : decode cX8_mark 176 = .ok (.aload_n 0, 1) := by decide +kernel
theorem dX8_mark_177 : decode cX8_mark 177 = .ok (.getfield 22, 3) := by decide +kernel
theorem dX8_mark_180 : decode cX8_mark 180 = .ok (.bipush 39, 2) := by decide +kernel
theorem dX8_mark_182 : decode cX8_mark 182 = .ok (.iload 4, 2) := by decide +kernel
theorem dX8_mark_184 : decode cX8_mark 184 = .ok (.iadd, 1) := by decide +kernel
theorem dX8_mark_185 : decode cX8_mark 185 = .ok (.iaload, 1) := by decide +kernel
theorem dX8_mark_186 : decode cX8_mark 186 = .ok (.aload_n 0, 1) := by decide +kernel
theorem dX8_mark_187 : decode cX8_mark 187 = .ok (.getfield 22, 3) := by decide +kernel
theorem dX8_mark_190 : decode cX8_mark 190 = .ok (.bipush 39, 2) := by decide +kernel
theorem dX8_mark_192 : decode cX8_mark 192 = .ok (.iload_n 1, 1) := by decide +kernel
theorem dX8_mark_193 : decode cX8_mark 193 = .ok (.iadd, 1) := by decide +kernel
theorem dX8_mark_194 : decode cX8_mark 194 = .ok (.iaload, 1) := by decide +kernel
theorem dX8_mark_195 : decode cX8_mark 195 = .ok (.if_icmp .ne 7, 3) := by decide +kernel
theorem dX8_mark_198 : decode cX8_mark 198 = .ok (.iconst 1, 1) := by decide +kernel
theorem dX8_mark_199 : decode cX8_mark 199 = .ok (.goto 4, 3) := by decide +kernel
theorem dX8_mark_202 : decode cX8_mark 202 = .ok (.iconst 0, 1) := by decide +kernel
theorem dX8_mark_203 : decode cX8_mark 203 = .ok (.iadd, 1) := by decide +kernel
theorem dX8_mark_204 : decode cX8_mark 204 = .ok (.istore_n 3, 1) := by decide +kernel
theorem dX8_mark_205 : decode cX8_mark 205 = .ok (.iinc 4 1, 3) := by decide +kernel
theorem dX8_mark_208 : decode cX8_mark 208 = .ok (.goto (-58), 3) := by decide +kernel
theorem dX8_mark_211 : decode cX8_mark 211 = .ok (.iload_n 3, 1) := by decide +kernel
theorem dX8_mark_212 : decode cX8_mark 212 = .ok (.ireturn, 1) := by decide +kernel
theorem dX8_does_0 : decode cX8_does 0 = .ok (.aload_n 0, 1) := by decide +kernel
theorem dX8_does_1 : decode cX8_does 1 = .ok (.getfield 22, 3) := by decide +kernel
theorem dX8_does_4 : decode cX8_does 4 = .ok (.bipush 75, 2) := by decide +kernel
theorem dX8_does_6 : decode cX8_does 6 = .ok (.aload_n 0, 1) := by decide +kernel
theorem dX8_does_7 : decode cX8_does 7 = .ok (.getfield 22, 3) := by decide +kernel
theorem dX8_does_10 : decode cX8_does 10 = .ok (.iconst 1, 1) := by decide +kernel
theorem dX8_does_11 : decode cX8_does 11 = .ok (.iaload, 1) := by decide +kernel
theorem dX8_does_12 : decode cX8_does 12 = .ok (.iadd, 1) := by decide +kernel
theorem dX8_does_13 : decode cX8_does 13 = .ok (.iload_n 1, 1) := by decide +kernel
theorem dX8_does_14 : decode cX8_does 14 = .ok (.iastore, 1) := by decide +kernel
theorem dX8_does_15 : decode cX8_does 15 = .ok (.aload_n 0, 1) := by decide +kernel
theorem dX8_does_16 : decode cX8_does 16 = .ok (.getfield 22, 3) := by decide +kernel
theorem dX8_does_19 : decode cX8_does 19 = .ok (.iconst 1, 1) := by decide +kernel
theorem dX8_does_20 : decode cX8_does 20 = .ok (.dup2, 1) := by decide +kernel
theorem dX8_does_21 : decode cX8_does 21 = .ok (.iaload, 1) := by decide +kernel
theorem dX8_does_22 : decode cX8_does 22 = .ok (.iconst 1, 1) := by decide +kernel
theorem dX8_does_23 : decode cX8_does 23 = .ok (.iadd, 1) := by decide +kernel
theorem dX8_does_24 : decode cX8_does 24 = .ok (.iastore, 1) := by decide +kernel
theorem dX8_does_25 : decode cX8_does 25 = .ok (.return_, 1) := by decide +kernel
set_option maxRecDepth 20000 in
theorem ggX8_say_X8_in : GoodIn wsX8_say wsX8_in := goodIn_r _ [8] (by decide +kernel) (by decide +kernel)
set_option maxRecDepth 20000 in
theorem gX8_say_X8_in : GoodIn wsX8_say (va_wsS RX8 61 yX8_in wsX8_in) := goodIn_app (goodIn_of _ (by decide +kernel)) ggX8_say_X8_in
set_option maxRecDepth 20000 in
theorem ggX8_say_X8_isSaying : GoodIn wsX8_say wsX8_isSaying := goodIn_r _ [12, 4, 5, 6, 7, 8, 20, 21, 22, 23, 24, 25, 26, 27, 28, 29, 30, 31, 32, 33, 34, 35, 36] (by decide +kernel) (by decide +kernel)
set_option maxRecDepth 20000 in
theorem gX8_say_X8_isSaying : GoodIn wsX8_say (wsV RX8 122 RX8 yX8_isSaying wsX8_isSaying) := goodIn_app (goodIn_of _ (by decide +kernel)) ggX8_say_X8_isSaying
set_option maxRecDepth 20000 in
theorem ggX8_say_X8_isPerson : GoodIn wsX8_say wsX8_isPerson := goodIn_r _ [15, 1, 5, 6, 7, 8] (by decide +kernel) (by decide +kernel)
set_option maxRecDepth 20000 in
theorem gX8_say_X8_isPerson : GoodIn wsX8_say (va_wsS RX8 146 yX8_isPerson wsX8_isPerson) := goodIn_app (goodIn_of _ (by decide +kernel)) ggX8_say_X8_isPerson
set_option maxRecDepth 20000 in
theorem ggX8_say_X8_does : GoodIn wsX8_say wsX8_does := goodIn_r _ [19, 4, 20, 21, 22, 23, 24, 25, 26, 27, 28, 29, 30, 31, 32, 33, 34, 35, 36] (by decide +kernel) (by decide +kernel)
set_option maxRecDepth 20000 in
theorem gX8_say_X8_does : GoodIn wsX8_say (wsV RX8 149 RX8 yX8_does wsX8_does) := goodIn_app (goodIn_of _ (by decide +kernel)) ggX8_say_X8_does
theorem dX8_say_0 : decode cX8_say 0 = .ok (.iload_n 1, 1) := by decide +kernel
theorem dX8_say_1 : decode cX8_say 1 = .ok (.i2l, 1) := by decide +kernel
theorem dX8_say_2 : decode cX8_say 2 = .ok (.lconst 0, 1) := by decide +kernel
theorem dX8_say_3 : decode cX8_say 3 = .ok (.ldc2_w 59, 3) := by decide +kernel
theorem dX8_say_6 : decode cX8_say 6 = .ok (.invokestatic 61, 3) := by decide +kernel
theorem dX8_say_9 : decode cX8_say 9 = .ok (.ifCond .eq 43, 3) := by decide +kernel
theorem dX8_say_12 : decode cX8_say 12 = .ok (.iload_n 2, 1) := by decide +kernel
theorem dX8_say_13 : decode cX8_say 13 = .ok (.i2l, 1) := by decide +kernel
theorem dX8_say_14 : decode cX8_say 14 = .ok (.lconst 0, 1) := by decide +kernel
theorem dX8_say_15 : decode cX8_say 15 = .ok (.ldc2_w 142, 3) := by decide +kernel
theorem dX8_say_18 : decode cX8_say 18 = .ok (.invokestatic 61, 3) := by decide +kernel
theorem dX8_say_21 : decode cX8_say 21 = .ok (.ifCond .eq 31, 3) := by decide +kernel
theorem dX8_say_24 : decode cX8_say 24 = .ok (.iload_n 3, 1) := by decide +kernel
theorem dX8_say_25 : decode cX8_say 25 = .ok (.i2l, 1) := by decide +kernel
theorem dX8_say_26 : decode cX8_say 26 = .ok (.lconst 1, 1) := by decide +kernel
theorem dX8_say_27 : decode cX8_say 27 = .ok (.ldc2_w 144, 3) := by decide +kernel
theorem dX8_say_30 : decode cX8_say 30 = .ok (.invokestatic 61, 3) := by decide +kernel
theorem dX8_say_33 : decode cX8_say 33 = .ok (.ifCond .eq 19, 3) := by decide +kernel
theorem dX8_say_36 : decode cX8_say 36 = .ok (.iload 4, 2) := by decide +kernel
theorem dX8_say_38 : decode cX8_say 38 = .ok (.bipush (-9), 2) := by decide +kernel
theorem dX8_say_40 : decode cX8_say 40 = .ok (.if_icmp .eq 14, 3) := by decide +kernel
theorem dX8_say_43 : decode cX8_say 43 = .ok (.aload_n 0, 1) := by decide +kernel
theorem dX8_say_44 : decode cX8_say 44 = .ok (.iload 4, 2) := by decide +kernel
theorem dX8_say_46 : decode cX8_say 46 = .ok (.invokevirtual 122, 3) := by decide +kernel
theorem dX8_say_49 : decode cX8_say 49 = .ok (.ifCond .ne 5, 3) := by decide +kernel
theorem dX8_say_52 : decode cX8_say 52 = .ok (.iconst (-1), 1) := by decide +kernel
theorem dX8_say_53 : decode cX8_say 53 = .ok (.ireturn, 1) := by decide +kernel
theorem dX8_say_54 : decode cX8_say 54 = .ok (.iload_n 2, 1) := by decide +kernel
theorem dX8_say_55 : decode cX8_say 55 = .ok (.bipush 100, 2) := by decide +kernel
theorem dX8_say_57 : decode cX8_say 57 = .ok (.idiv, 1) := by decide +kernel
theorem dX8_say_58 : decode cX8_say 58 = .ok (.istore 5, 2) := by decide +kernel
theorem dX8_say_60 : decode cX8_say 60 = .ok (.iload_n 2, 1) := by decide +kernel
theorem dX8_say_61 : decode cX8_say 61 = .ok (.bipush 10, 2) := by decide +kernel
theorem dX8_say_63 : decode cX8_say 63 = .ok (.idiv, 1) := by decide +kernel
theorem dX8_say_64 : decode cX8_say 64 = .ok (.bipush 10, 2) := by decide +kernel
theorem dX8_say_66 : decode cX8_say 66 = .ok (.irem, 1) := by decide +kernel
theorem dX8_say_67 : decode cX8_say 67 = .ok (.istore 6, 2) := by decide +kernel
theorem dX8_say_69 : decode cX8_say 69 = .ok (.iload_n 2, 1) := by decide +kernel
theorem dX8_say_70 : decode cX8_say 70 = .ok (.bipush 10, 2) := by decide +kernel
theorem dX8_say_72 : decode cX8_say 72 = .ok (.irem, 1) := by decide +kernel
theorem dX8_say_73 : decode cX8_say 73 = .ok (.istore 7, 2) := by decide +kernel
theorem dX8_say_75 : decode cX8_say 75 = .ok (.iload 6, 2) := by decide +kernel
theorem dX8_say_77 : decode cX8_say 77 = .ok (.invokestatic 146, 3) := by decide +kernel
theorem dX8_say_80 : decode cX8_say 80 = .ok (.ifCond .eq 16, 3) := by decide +kernel
theorem dX8_say_83 : decode cX8_say 83 = .ok (.iload 7, 2) := by decide +kernel
theorem dX8_say_85 : decode cX8_say 85 = .ok (.iconst 5, 1) := by decide +kernel
theorem dX8_say_86 : decode cX8_say 86 = .ok (.if_icmp .gt 10, 3) := by decide +kernel
theorem dX8_say_89 : decode cX8_say 89 = .ok (.iload 5, 2) := by decide +kernel
theorem dX8_say_91 : decode cX8_say 91 = .ok (.iload 6, 2) := by decide +kernel
theorem dX8_say_93 : decode cX8_say 93 = .ok (.if_icmp .ne 5, 3) := by decide +kernel
theorem dX8_say_96 : decode cX8_say 96 = .ok (.iconst (-1), 1) := by decide +kernel
theorem dX8_say_97 : decode cX8_say 97 = .ok (.ireturn, 1) := by decide +kernel
theorem dX8_say_98 : decode cX8_say 98 = .ok (.aload_n 0, 1) := by decide +kernel
theorem dX8_say_99 : decode cX8_say 99 = .ok (.getfield 22, 3) := by decide +kernel
theorem dX8_say_102 : decode cX8_say 102 = .ok (.iconst 0, 1) := by decide +kernel
theorem dX8_say_103 : decode cX8_say 103 = .ok (.iaload, 1) := by decide +kernel
theorem dX8_say_104 : decode cX8_say 104 = .ok (.istore 8, 2) := by decide +kernel
theorem dX8_say_106 : decode cX8_say 106 = .ok (.iload 8, 2) := by decide +kernel
theorem dX8_say_108 : decode cX8_say 108 = .ok (.bipush 12, 2) := by decide +kernel
theorem dX8_say_110 : decode cX8_say 110 = .ok (.if_icmp .eq 14, 3) := by decide +kernel
theorem dX8_say_113 : decode cX8_say 113 = .ok (.aload_n 0, 1) := by decide +kernel
theorem dX8_say_114 : decode cX8_say 114 = .ok (.getfield 22, 3) := by decide +kernel
theorem dX8_say_117 : decode cX8_say 117 = .ok (.iconst 1, 1) := by decide +kernel
theorem dX8_say_118 : decode cX8_say 118 = .ok (.iaload, 1) := by decide +kernel
theorem dX8_say_119 : decode cX8_say 119 = .ok (.bipush 40, 2) := by decide +kernel
theorem dX8_say_121 : decode cX8_say 121 = .ok (.if_icmp .ne 6, 3) := by decide +kernel
theorem dX8_say_124 : decode cX8_say 124 = .ok (.bipush (-2), 2) := by decide +kernel
theorem dX8_say_126 : decode cX8_say 126 = .ok (.ireturn, 1) := by decide +kernel
theorem dX8_say_127 : decode cX8_say 127 = .ok (.aload_n 0, 1) := by decide +kernel
theorem dX8_say_128 : decode cX8_say 128 = .ok (.getfield 22, 3) := by decide +kernel
theorem dX8_say_131 : decode cX8_say 131 = .ok (.iconst 3, 1) := by decide +kernel
theorem dX8_say_132 : decode cX8_say 132 = .ok (.iload 8, 2) := by decide +kernel
theorem dX8_say_134 : decode cX8_say 134 = .ok (.iadd, 1) := by decide +kernel
theorem dX8_say_135 : decode cX8_say 135 = .ok (.iload_n 1, 1) := by decide +kernel
theorem dX8_say_136 : decode cX8_say 136 = .ok (.iastore, 1) := by decide +kernel
theorem dX8_say_137 : decode cX8_say 137 = .ok (.aload_n 0, 1) := by decide +kernel
theorem dX8_say_138 : decode cX8_say 138 = .ok (.getfield 22, 3) := by decide +kernel
theorem dX8_say_141 : decode cX8_say 141 = .ok (.bipush 15, 2) := by decide +kernel
theorem dX8_say_143 : decode cX8_say 143 = .ok (.iload 8, 2) := by decide +kernel
theorem dX8_say_145 : decode cX8_say 145 = .ok (.iadd, 1) := by decide +kernel
theorem dX8_say_146 : decode cX8_say 146 = .ok (.iload 5, 2) := by decide +kernel
theorem dX8_say_148 : decode cX8_say 148 = .ok (.iastore, 1) := by decide +kernel
theorem dX8_say_149 : decode cX8_say 149 = .ok (.aload_n 0, 1) := by decide +kernel
theorem dX8_say_150 : decode cX8_say 150 = .ok (.getfield 22, 3) := by decide +kernel
theorem dX8_say_153 : decode cX8_say 153 = .ok (.bipush 27, 2) := by decide +kernel
theorem dX8_say_155 : decode cX8_say 155 = .ok (.iload 8, 2) := by decide +kernel
theorem dX8_say_157 : decode cX8_say 157 = .ok (.iadd, 1) := by decide +kernel
theorem dX8_say_158 : decode cX8_say 158 = .ok (.iload 6, 2) := by decide +kernel
theorem dX8_say_160 : decode cX8_say 160 = .ok (.iastore, 1) := by decide +kernel
theorem dX8_say_161 : decode cX8_say 161 = .ok (.aload_n 0, 1) := by decide +kernel
theorem dX8_say_162 : decode cX8_say 162 = .ok (.getfield 22, 3) := by decide +kernel
theorem dX8_say_165 : decode cX8_say 165 = .ok (.bipush 39, 2) := by decide +kernel
theorem dX8_say_167 : decode cX8_say 167 = .ok (.iload 8, 2) := by decide +kernel
theorem dX8_say_169 : decode cX8_say 169 = .ok (.iadd, 1) := by decide +kernel
theorem dX8_say_170 : decode cX8_say 170 = .ok (.iload 7, 2) := by decide +kernel
theorem dX8_say_172 : decode cX8_say 172 = .ok (.iastore, 1) := by decide +kernel
theorem dX8_say_173 : decode cX8_say 173 = .ok (.aload_n 0, 1) := by decide +kernel
theorem dX8_say_174 : decode cX8_say 174 = .ok (.getfield 22, 3) := by decide +kernel
theorem dX8_say_177 : decode cX8_say 177 = .ok (.bipush 51, 2) := by decide +kernel
theorem dX8_say_179 : decode cX8_say 179 = .ok (.iload 8, 2) := by decide +kernel
theorem dX8_say_181 : decode cX8_say 181 = .ok (.iadd, 1) := by decide +kernel
theorem dX8_say_182 : decode cX8_say 182 = .ok (.iload_n 3, 1) := by decide +kernel
theorem dX8_say_183 : decode cX8_say 183 = .ok (.iastore, 1) := by decide +kernel
theorem dX8_say_184 : decode cX8_say 184 = .ok (.aload_n 0, 1) := by decide +kernel
theorem dX8_say_185 : decode cX8_say 185 = .ok (.getfield 22, 3) := by decide +kernel
theorem dX8_say_188 : decode cX8_say 188 = .ok (.bipush 63, 2) := by decide +kernel
theorem dX8_say_190 : decode cX8_say 190 = .ok (.iload 8, 2) := by decide +kernel
theorem dX8_say_192 : decode cX8_say 192 = .ok (.iadd, 1) := by decide +kernel
theorem dX8_say_193 : decode cX8_say 193 = .ok (.iload 4, 2) := by decide +kernel
theorem dX8_say_195 : decode cX8_say 195 = .ok (.iastore, 1) := by decide +kernel
theorem dX8_say_196 : decode cX8_say 196 = .ok (.aload_n 0, 1) := by decide +kernel
theorem dX8_say_197 : decode cX8_say 197 = .ok (.getfield 22, 3) := by decide +kernel
theorem dX8_say_200 : decode cX8_say 200 = .ok (.iconst 2, 1) := by decide +kernel
theorem dX8_say_201 : decode cX8_say 201 = .ok (.dup2, 1) := by decide +kernel
theorem dX8_say_202 : decode cX8_say 202 = .ok (.iaload, 1) := by decide +kernel
theorem dX8_say_203 : decode cX8_say 203 = .ok (.iconst 1, 1) := by decide +kernel
theorem dX8_say_204 : decode cX8_say 204 = .ok (.iload 8, 2) := by decide +kernel
theorem dX8_say_206 : decode cX8_say 206 = .ok (.ishl, 1) := by decide +kernel
theorem dX8_say_207 : decode cX8_say 207 = .ok (.ior, 1) := by decide +kernel
theorem dX8_say_208 : decode cX8_say 208 = .ok (.iastore, 1) := by decide +kernel
theorem dX8_say_209 : decode cX8_say 209 = .ok (.aload_n 0, 1) := by decide +kernel
theorem dX8_say_210 : decode cX8_say 210 = .ok (.getfield 22, 3) := by decide +kernel
theorem dX8_say_213 : decode cX8_say 213 = .ok (.iconst 0, 1) := by decide +kernel
theorem dX8_say_214 : decode cX8_say 214 = .ok (.dup2, 1) := by decide +kernel
theorem dX8_say_215 : decode cX8_say 215 = .ok (.iaload, 1) := by decide +kernel
theorem dX8_say_216 : decode cX8_say 216 = .ok (.iconst 1, 1) := by decide +kernel
theorem dX8_say_217 : decode cX8_say 217 = .ok (.iadd, 1) := by decide +kernel
theorem dX8_say_218 : decode cX8_say 218 = .ok (.iastore, 1) := by decide +kernel
theorem dX8_say_219 : decode cX8_say 219 = .ok (.aload_n 0, 1) := by decide +kernel
theorem dX8_say_220 : decode cX8_say 220 = .ok (.bipush 100, 2) := by decide +kernel
theorem dX8_say_222 : decode cX8_say 222 = .ok (.iload 8, 2) := by decide +kernel
theorem dX8_say_224 : decode cX8_say 224 = .ok (.iadd, 1) := by decide +kernel
theorem dX8_say_225 : decode cX8_say 225 = .ok (.invokevirtual 149, 3) := by decide +kernel
theorem dX8_say_228 : decode cX8_say 228 = .ok (.iload 8, 2) := by decide +kernel
theorem dX8_say_230 : decode cX8_say 230 = .ok (.ireturn, 1) := by decide +kernel
set_option maxRecDepth 20000 in
theorem ggX8_unsays_X8_price : GoodIn wsX8_unsays wsX8_price := goodIn_r _ [6, 1, 7, 8, 9, 5, 10, 11, 12, 13, 14, 15, 16, 17, 22, 23, 24, 25, 26, 27, 28, 29, 30, 31, 32, 33, 34, 35, 36, 37, 38] (by decide +kernel) (by decide +kernel)
set_option maxRecDepth 20000 in
theorem gX8_unsays_X8_price : GoodIn wsX8_unsays (wsV RX8 119 RX8 yX8_price wsX8_price) := goodIn_app (goodIn_of _ (by decide +kernel)) ggX8_unsays_X8_price
set_option maxRecDepth 20000 in
theorem ggX8_unsays_X8_does : GoodIn wsX8_unsays wsX8_does := goodIn_r _ [21, 1, 22, 23, 24, 25, 26, 27, 28, 29, 30, 31, 32, 33, 34, 35, 36, 37, 38] (by decide +kernel) (by decide +kernel)
set_option maxRecDepth 20000 in
theorem gX8_unsays_X8_does : GoodIn wsX8_unsays (wsV RX8 149 RX8 yX8_does wsX8_does) := goodIn_app (goodIn_of _ (by decide +kernel)) ggX8_unsays_X8_does
theorem dX8_unsays_0 : decode cX8_unsays 0 = .ok (.aload_n 0, 1) := by decide +kernel
theorem dX8_unsays_1 : decode cX8_unsays 1 = .ok (.iload_n 1, 1) := by decide +kernel
theorem dX8_unsays_2 : decode cX8_unsays 2 = .ok (.aload_n 0, 1) := by decide +kernel
theorem dX8_unsays_3 : decode cX8_unsays 3 = .ok (.getfield 22, 3) := by decide +kernel
theorem dX8_unsays_6 : decode cX8_unsays 6 = .ok (.iconst 2, 1) := by decide +kernel
theorem dX8_unsays_7 : decode cX8_unsays 7 = .ok (.iaload, 1) := by decide +kernel
theorem dX8_unsays_8 : decode cX8_unsays 8 = .ok (.invokevirtual 119, 3) := by decide +kernel
theorem dX8_unsays_11 : decode cX8_unsays 11 = .ok (.istore_n 2, 1) := by decide +kernel
theorem dX8_unsays_12 : decode cX8_unsays 12 = .ok (.aload_n 0, 1) := by decide +kernel
theorem dX8_unsays_13 : decode cX8_unsays 13 = .ok (.getfield 22, 3) := by decide +kernel
theorem dX8_unsays_16 : decode cX8_unsays 16 = .ok (.iconst 2, 1) := by decide +kernel
theorem dX8_unsays_17 : decode cX8_unsays 17 = .ok (.dup2, 1) := by decide +kernel
theorem dX8_unsays_18 : decode cX8_unsays 18 = .ok (.iaload, 1) := by decide +kernel
theorem dX8_unsays_19 : decode cX8_unsays 19 = .ok (.iconst 1, 1) := by decide +kernel
theorem dX8_unsays_20 : decode cX8_unsays 20 = .ok (.iload_n 1, 1) := by decide +kernel
theorem dX8_unsays_21 : decode cX8_unsays 21 = .ok (.ishl, 1) := by decide +kernel
theorem dX8_unsays_22 : decode cX8_unsays 22 = .ok (.iconst (-1), 1) := by decide +kernel
theorem dX8_unsays_23 : decode cX8_unsays 23 = .ok (.ixor, 1) := by decide +kernel
theorem dX8_unsays_24 : decode cX8_unsays 24 = .ok (.iand, 1) := by decide +kernel
theorem dX8_unsays_25 : decode cX8_unsays 25 = .ok (.iastore, 1) := by decide +kernel
theorem dX8_unsays_26 : decode cX8_unsays 26 = .ok (.aload_n 0, 1) := by decide +kernel
theorem dX8_unsays_27 : decode cX8_unsays 27 = .ok (.iload_n 1, 1) := by decide +kernel
theorem dX8_unsays_28 : decode cX8_unsays 28 = .ok (.invokevirtual 149, 3) := by decide +kernel
theorem dX8_unsays_31 : decode cX8_unsays 31 = .ok (.iload_n 2, 1) := by decide +kernel
theorem dX8_unsays_32 : decode cX8_unsays 32 = .ok (.ireturn, 1) := by decide +kernel
set_option maxRecDepth 20000 in
theorem ggX8_unsay_X8_isSaying : GoodIn wsX8_unsay wsX8_isSaying := goodIn_r _ [6, 1, 7, 8, 5, 9, 41, 42, 43, 44, 45, 46, 47, 48, 49, 50, 51, 52, 53, 54, 55, 56, 57] (by decide +kernel) (by decide +kernel)
set_option maxRecDepth 20000 in
theorem gX8_unsay_X8_isSaying : GoodIn wsX8_unsay (wsV RX8 122 RX8 yX8_isSaying wsX8_isSaying) := goodIn_app (goodIn_of _ (by decide +kernel)) ggX8_unsay_X8_isSaying
set_option maxRecDepth 20000 in
theorem ggX8_unsay_X8_mayBe : GoodIn wsX8_unsay wsX8_mayBe := goodIn_r _ [13, 1, 14, 15, 5, 16, 17, 18, 19, 20, 41, 42, 43, 44, 45, 46, 47, 48, 49, 50, 51, 52, 53, 54, 55, 56, 57] (by decide +kernel) (by decide +kernel)
set_option maxRecDepth 20000 in
theorem gX8_unsay_X8_mayBe : GoodIn wsX8_unsay (wsV RX8 153 RX8 yX8_mayBe wsX8_mayBe) := goodIn_app (goodIn_of _ (by decide +kernel)) ggX8_unsay_X8_mayBe
set_option maxRecDepth 20000 in
theorem ggX8_unsay_X8_unsays : GoodIn wsX8_unsay wsX8_unsays := goodIn_r _ [24, 1, 25, 26, 27, 5, 28, 29, 30, 31, 32, 14, 15, 16, 33, 34, 35, 36, 37, 38, 39, 40, 41, 42, 43, 44, 45, 46, 47, 48, 49, 50, 51, 52, 53, 54, 55, 56, 57] (by decide +kernel) (by decide +kernel)
set_option maxRecDepth 20000 in
theorem gX8_unsay_X8_unsays : GoodIn wsX8_unsay (wsV RX8 156 RX8 yX8_unsays wsX8_unsays) := goodIn_app (goodIn_of _ (by decide +kernel)) ggX8_unsay_X8_unsays
theorem dX8_unsay_0 : decode cX8_unsay 0 = .ok (.aload_n 0, 1) := by decide +kernel
theorem dX8_unsay_1 : decode cX8_unsay 1 = .ok (.iload_n 1, 1) := by decide +kernel
theorem dX8_unsay_2 : decode cX8_unsay 2 = .ok (.invokevirtual 122, 3) := by decide +kernel
theorem dX8_unsay_5 : decode cX8_unsay 5 = .ok (.ifCond .ne 5, 3) := by decide +kernel
theorem dX8_unsay_8 : decode cX8_unsay 8 = .ok (.iconst (-1), 1) := by decide +kernel
theorem dX8_unsay_9 : decode cX8_unsay 9 = .ok (.ireturn, 1) := by decide +kernel
theorem dX8_unsay_10 : decode cX8_unsay 10 = .ok (.aload_n 0, 1) := by decide +kernel
theorem dX8_unsay_11 : decode cX8_unsay 11 = .ok (.iload_n 1, 1) := by decide +kernel
theorem dX8_unsay_12 : decode cX8_unsay 12 = .ok (.aload_n 0, 1) := by decide +kernel
theorem dX8_unsay_13 : decode cX8_unsay 13 = .ok (.getfield 22, 3) := by decide +kernel
theorem dX8_unsay_16 : decode cX8_unsay 16 = .ok (.iconst 2, 1) := by decide +kernel
theorem dX8_unsay_17 : decode cX8_unsay 17 = .ok (.iaload, 1) := by decide +kernel
theorem dX8_unsay_18 : decode cX8_unsay 18 = .ok (.invokevirtual 153, 3) := by decide +kernel
theorem dX8_unsay_21 : decode cX8_unsay 21 = .ok (.ifCond .ne 6, 3) := by decide +kernel
theorem dX8_unsay_24 : decode cX8_unsay 24 = .ok (.bipush (-4), 2) := by decide +kernel
theorem dX8_unsay_26 : decode cX8_unsay 26 = .ok (.ireturn, 1) := by decide +kernel
theorem dX8_unsay_27 : decode cX8_unsay 27 = .ok (.aload_n 0, 1) := by decide +kernel
theorem dX8_unsay_28 : decode cX8_unsay 28 = .ok (.getfield 22, 3) := by decide +kernel
theorem dX8_unsay_31 : decode cX8_unsay 31 = .ok (.iconst 1, 1) := by decide +kernel
theorem dX8_unsay_32 : decode cX8_unsay 32 = .ok (.iaload, 1) := by decide +kernel
theorem dX8_unsay_33 : decode cX8_unsay 33 = .ok (.bipush 40, 2) := by decide +kernel
theorem dX8_unsay_35 : decode cX8_unsay 35 = .ok (.if_icmp .ne 8, 3) := by decide +kernel
theorem dX8_unsay_38 : decode cX8_unsay 38 = .ok (.bipush (-2), 2) := by decide +kernel
theorem dX8_unsay_40 : decode cX8_unsay 40 = .ok (.goto 8, 3) := by decide +kernel
theorem dX8_unsay_43 : decode cX8_unsay 43 = .ok (.aload_n 0, 1) := by decide +kernel
theorem dX8_unsay_44 : decode cX8_unsay 44 = .ok (.iload_n 1, 1) := by decide +kernel
theorem dX8_unsay_45 : decode cX8_unsay 45 = .ok (.invokevirtual 156, 3) := by decide +kernel
theorem dX8_unsay_48 : decode cX8_unsay 48 = .ok (.ireturn, 1) := by decide +kernel
set_option maxRecDepth 20000 in
theorem ggX8_undo_X8_in : GoodIn wsX8_undo wsX8_in := goodIn_r _ [5] (by decide +kernel) (by decide +kernel)
set_option maxRecDepth 20000 in
theorem gX8_undo_X8_in : GoodIn wsX8_undo (va_wsS RX8 61 yX8_in wsX8_in) := goodIn_app (goodIn_of _ (by decide +kernel)) ggX8_undo_X8_in
theorem dX8_undo_0 : decode cX8_undo 0 = .ok (.iload_n 1, 1) := by decide +kernel
theorem dX8_undo_1 : decode cX8_undo 1 = .ok (.i2l, 1) := by decide +kernel
theorem dX8_undo_2 : decode cX8_undo 2 = .ok (.lconst 0, 1) := by decide +kernel
theorem dX8_undo_3 : decode cX8_undo 3 = .ok (.aload_n 0, 1) := by decide +kernel
theorem dX8_undo_4 : decode cX8_undo 4 = .ok (.getfield 22, 3) := by decide +kernel
theorem dX8_undo_7 : decode cX8_undo 7 = .ok (.iconst 1, 1) := by decide +kernel
theorem dX8_undo_8 : decode cX8_undo 8 = .ok (.iaload, 1) := by decide +kernel
theorem dX8_undo_9 : decode cX8_undo 9 = .ok (.i2l, 1) := by decide +kernel
theorem dX8_undo_10 : decode cX8_undo 10 = .ok (.invokestatic 61, 3) := by decide +kernel
theorem dX8_undo_13 : decode cX8_undo 13 = .ok (.ifCond .ne 5, 3) := by decide +kernel
theorem dX8_undo_16 : decode cX8_undo 16 = .ok (.iconst (-1), 1) := by decide +kernel
theorem dX8_undo_17 : decode cX8_undo 17 = .ok (.ireturn, 1) := by decide +kernel
theorem dX8_undo_18 : decode cX8_undo 18 = .ok (.aload_n 0, 1) := by decide +kernel
theorem dX8_undo_19 : decode cX8_undo 19 = .ok (.getfield 22, 3) := by decide +kernel
theorem dX8_undo_22 : decode cX8_undo 22 = .ok (.iconst 1, 1) := by decide +kernel
theorem dX8_undo_23 : decode cX8_undo 23 = .ok (.iaload, 1) := by decide +kernel
theorem dX8_undo_24 : decode cX8_undo 24 = .ok (.iload_n 1, 1) := by decide +kernel
theorem dX8_undo_25 : decode cX8_undo 25 = .ok (.isub, 1) := by decide +kernel
theorem dX8_undo_26 : decode cX8_undo 26 = .ok (.istore_n 2, 1) := by decide +kernel
theorem dX8_undo_27 : decode cX8_undo 27 = .ok (.aload_n 0, 1) := by decide +kernel
theorem dX8_undo_28 : decode cX8_undo 28 = .ok (.getfield 22, 3) := by decide +kernel
theorem dX8_undo_31 : decode cX8_undo 31 = .ok (.iconst 1, 1) := by decide +kernel
theorem dX8_undo_32 : decode cX8_undo 32 = .ok (.iaload, 1) := by decide +kernel
theorem dX8_undo_33 : decode cX8_undo 33 = .ok (.iconst 1, 1) := by decide +kernel
theorem dX8_undo_34 : decode cX8_undo 34 = .ok (.isub, 1) := by decide +kernel
theorem dX8_undo_35 : decode cX8_undo 35 = .ok (.istore_n 3, 1) := by decide +kernel
theorem dX8_undo_36 : decode cX8_undo 36 = .ok (.iload_n 3, 1) := by decide +kernel
theorem dX8_undo_37 : decode cX8_undo 37 = .ok (.iload_n 1, 1) := by decide +kernel
theorem dX8_undo_38 : decode cX8_undo 38 = .ok (.if_icmp .lt 71, 3) := by decide +kernel
theorem dX8_undo_41 : decode cX8_undo 41 = .ok (.aload_n 0, 1) := by decide +kernel
theorem dX8_undo_42 : decode cX8_undo 42 = .ok (.getfield 22, 3) := by decide +kernel
theorem dX8_undo_45 : decode cX8_undo 45 = .ok (.bipush 75, 2) := by decide +kernel
theorem dX8_undo_47 : decode cX8_undo 47 = .ok (.iload_n 3, 1) := by decide +kernel
theorem dX8_undo_48 : decode cX8_undo 48 = .ok (.iadd, 1) := by decide +kernel
theorem dX8_undo_49 : decode cX8_undo 49 = .ok (.iaload, 1) := by decide +kernel
theorem dX8_undo_50 : decode cX8_undo 50 = .ok (.istore 4, 2) := by decide +kernel
theorem dX8_undo_52 : decode cX8_undo 52 = .ok (.iload 4, 2) := by decide +kernel
theorem dX8_undo_54 : decode cX8_undo 54 = .ok (.bipush 100, 2) := by decide +kernel
theorem dX8_undo_56 : decode cX8_undo 56 = .ok (.if_icmp .ge 19, 3) := by decide +kernel
theorem dX8_undo_59 : decode cX8_undo 59 = .ok (.aload_n 0, 1) := by decide +kernel
theorem dX8_undo_60 : decode cX8_undo 60 = .ok (.getfield 22, 3) := by decide +kernel
theorem dX8_undo_63 : decode cX8_undo 63 = .ok (.iconst 2, 1) := by decide +kernel
theorem dX8_undo_64 : decode cX8_undo 64 = .ok (.dup2, 1) := by decide +kernel
theorem dX8_undo_65 : decode cX8_undo 65 = .ok (.iaload, 1) := by decide +kernel
theorem dX8_undo_66 : decode cX8_undo 66 = .ok (.iconst 1, 1) := by decide +kernel
theorem dX8_undo_67 : decode cX8_undo 67 = .ok (.iload 4, 2) := by decide +kernel
theorem dX8_undo_69 : decode cX8_undo 69 = .ok (.ishl, 1) := by decide +kernel
theorem dX8_undo_70 : decode cX8_undo 70 = .ok (.ior, 1) := by decide +kernel
theorem dX8_undo_71 : decode cX8_undo 71 = .ok (.iastore, 1) := by decide +kernel
theorem dX8_undo_72 : decode cX8_undo 72 = .ok (.goto 31, 3) := by decide +kernel
theorem dX8_undo_75 : decode cX8_undo 75 = .ok (.aload_n 0, 1) := by decide +kernel
theorem dX8_undo_76 : decode cX8_undo 76 = .ok (.getfield 22, 3) := by decide +kernel
theorem dX8_undo_79 : decode cX8_undo 79 = .ok (.iconst 2, 1) := by decide +kernel
theorem dX8_undo_80 : decode cX8_undo 80 = .ok (.dup2, 1) := by decide +kernel
theorem dX8_undo_81 : decode cX8_undo 81 = .ok (.iaload, 1) := by decide +kernel
theorem dX8_undo_82 : decode cX8_undo 82 = .ok (.iconst 1, 1) := by decide +kernel
theorem dX8_undo_83 : decode cX8_undo 83 = .ok (.iload 4, 2) := by decide +kernel
theorem dX8_undo_85 : decode cX8_undo 85 = .ok (.bipush 100, 2) := by decide +kernel
theorem dX8_undo_87 : decode cX8_undo 87 = .ok (.isub, 1) := by decide +kernel
theorem dX8_undo_88 : decode cX8_undo 88 = .ok (.ishl, 1) := by decide +kernel
theorem dX8_undo_89 : decode cX8_undo 89 = .ok (.iconst (-1), 1) := by decide +kernel
theorem dX8_undo_90 : decode cX8_undo 90 = .ok (.ixor, 1) := by decide +kernel
theorem dX8_undo_91 : decode cX8_undo 91 = .ok (.iand, 1) := by decide +kernel
theorem dX8_undo_92 : decode cX8_undo 92 = .ok (.iastore, 1) := by decide +kernel
theorem dX8_undo_93 : decode cX8_undo 93 = .ok (.aload_n 0, 1) := by decide +kernel
theorem dX8_undo_94 : decode cX8_undo 94 = .ok (.getfield 22, 3) := by decide +kernel
theorem dX8_undo_97 : decode cX8_undo 97 = .ok (.iconst 0, 1) := by decide +kernel
theorem dX8_undo_98 : decode cX8_undo 98 = .ok (.dup2, 1) := by decide +kernel
theorem dX8_undo_99 : decode cX8_undo 99 = .ok (.iaload, 1) := by decide +kernel
theorem dX8_undo_100 : decode cX8_undo 100 = .ok (.iconst 1, 1) := by decide +kernel
theorem dX8_undo_101 : decode cX8_undo 101 = .ok (.isub, 1) := by decide +kernel
theorem dX8_undo_102 : decode cX8_undo 102 = .ok (.iastore, 1) := by decide +kernel
theorem dX8_undo_103 : decode cX8_undo 103 = .ok (.iinc 3 (-1), 3) := by decide +kernel
theorem dX8_undo_106 : decode cX8_undo 106 = .ok (.goto (-70), 3) := by decide +kernel
theorem dX8_undo_109 : decode cX8_undo 109 = .ok (.aload_n 0, 1) := by decide +kernel
theorem dX8_undo_110 : decode cX8_undo 110 = .ok (.getfield 22, 3) := by decide +kernel
theorem dX8_undo_113 : decode cX8_undo 113 = .ok (.iconst 1, 1) := by decide +kernel
theorem dX8_undo_114 : decode cX8_undo 114 = .ok (.iload_n 1, 1) := by decide +kernel
theorem dX8_undo_115 : decode cX8_undo 115 = .ok (.iastore, 1) := by decide +kernel
theorem dX8_undo_116 : decode cX8_undo 116 = .ok (.iload_n 2, 1) := by decide +kernel
theorem dX8_undo_117 : decode cX8_undo 117 = .ok (.ireturn, 1) := by decide +kernel
set_option maxRecDepth 20000 in
theorem ggX8_allThatMay_X8_mayBe : GoodIn wsX8_allThatMay wsX8_mayBe := goodIn_r _ [6, 1, 7, 8, 5, 9, 10, 11, 12, 13, 14, 15, 16, 17, 18, 19, 20, 21, 22, 23, 24, 25, 26, 27, 28, 29, 30] (by decide +kernel) (by decide +kernel)
set_option maxRecDepth 20000 in
theorem gX8_allThatMay_X8_mayBe : GoodIn wsX8_allThatMay (wsV RX8 153 RX8 yX8_mayBe wsX8_mayBe) := goodIn_app (goodIn_of _ (by decide +kernel)) ggX8_allThatMay_X8_mayBe
theorem dX8_allThatMay_0 : decode cX8_allThatMay 0 = .ok (.iconst 0, 1) := by decide +kernel
theorem dX8_allThatMay_1 : decode cX8_allThatMay 1 = .ok (.istore_n 2, 1) := by decide +kernel
theorem dX8_allThatMay_2 : decode cX8_allThatMay 2 = .ok (.iconst 0, 1) := by decide +kernel
theorem dX8_allThatMay_3 : decode cX8_allThatMay 3 = .ok (.istore_n 3, 1) := by decide +kernel
theorem dX8_allThatMay_4 : decode cX8_allThatMay 4 = .ok (.iload_n 3, 1) := by decide +kernel
theorem dX8_allThatMay_5 : decode cX8_allThatMay 5 = .ok (.aload_n 0, 1) := by decide +kernel
theorem dX8_allThatMay_6 : decode cX8_allThatMay 6 = .ok (.getfield 22, 3) := by decide +kernel
theorem dX8_allThatMay_9 : decode cX8_allThatMay 9 = .ok (.iconst 0, 1) := by decide +kernel
theorem dX8_allThatMay_10 : decode cX8_allThatMay 10 = .ok (.iaload, 1) := by decide +kernel
theorem dX8_allThatMay_11 : decode cX8_allThatMay 11 = .ok (.if_icmp .ge 28, 3) := by decide +kernel
theorem dX8_allThatMay_14 : decode cX8_allThatMay 14 = .ok (.iload_n 2, 1) := by decide +kernel
theorem dX8_allThatMay_15 : decode cX8_allThatMay 15 = .ok (.aload_n 0, 1) := by decide +kernel
theorem dX8_allThatMay_16 : decode cX8_allThatMay 16 = .ok (.iload_n 3, 1) := by decide +kernel
theorem dX8_allThatMay_17 : decode cX8_allThatMay 17 = .ok (.iload_n 1, 1) := by decide +kernel
theorem dX8_allThatMay_18 : decode cX8_allThatMay 18 = .ok (.invokevirtual 153, 3) := by decide +kernel
theorem dX8_allThatMay_21 : decode cX8_allThatMay 21 = .ok (.ifCond .eq 9, 3) := by decide +kernel
theorem dX8_allThatMay_24 : decode cX8_allThatMay 24 = .ok (.iconst 1, 1) := by decide +kernel
theorem dX8_allThatMay_25 : decode cX8_allThatMay 25 = .ok (.iload_n 3, 1) := by decide +kernel
theorem dX8_allThatMay_26 : decode cX8_allThatMay 26 = .ok (.ishl, 1) := by decide +kernel
theorem dX8_allThatMay_27 : decode cX8_allThatMay 27 = .ok (.goto 4, 3) := by decide +kernel
theorem dX8_allThatMay_30 : decode cX8_allThatMay 30 = .ok (.iconst 0, 1) := by decide +kernel
theorem dX8_allThatMay_31 : decode cX8_allThatMay 31 = .ok (.ior, 1) := by decide +kernel
theorem dX8_allThatMay_32 : decode cX8_allThatMay 32 = .ok (.istore_n 2, 1) := by decide +kernel
theorem dX8_allThatMay_33 : decode cX8_allThatMay 33 = .ok (.iinc 3 1, 3) := by decide +kernel
theorem dX8_allThatMay_36 : decode cX8_allThatMay 36 = .ok (.goto (-32), 3) := by decide +kernel
theorem dX8_allThatMay_39 : decode cX8_allThatMay 39 = .ok (.iload_n 2, 1) := by decide +kernel
theorem dX8_allThatMay_40 : decode cX8_allThatMay 40 = .ok (.ireturn, 1) := by decide +kernel
set_option maxRecDepth 20000 in
theorem ggX8_said_X8_allThatMay : GoodIn wsX8_said wsX8_allThatMay := goodIn_r _ [6, 1, 7, 8, 9, 5, 10, 11, 12, 13, 14, 15, 16, 17, 23, 24, 25, 26, 27, 28, 29, 30, 31, 32, 33, 34, 35, 36, 37, 38, 39] (by decide +kernel) (by decide +kernel)
set_option maxRecDepth 20000 in
theorem gX8_said_X8_allThatMay : GoodIn wsX8_said (wsV RX8 159 RX8 yX8_allThatMay wsX8_allThatMay) := goodIn_app (goodIn_of _ (by decide +kernel)) ggX8_said_X8_allThatMay
set_option maxRecDepth 20000 in
theorem ggX8_said_X8_answer : GoodIn wsX8_said wsX8_answer := goodIn_r _ [21, 22, 23, 24, 25, 26, 27, 28, 29, 30, 31, 32, 33, 34, 35, 36, 37, 38, 39] (by decide +kernel) (by decide +kernel)
set_option maxRecDepth 20000 in
theorem gX8_said_X8_answer : GoodIn wsX8_said (wsV RX8 162 RX8 yX8_answer wsX8_answer) := goodIn_app (goodIn_of _ (by decide +kernel)) ggX8_said_X8_answer
theorem dX8_said_0 : decode cX8_said 0 = .ok (.aload_n 0, 1) := by decide +kernel
theorem dX8_said_1 : decode cX8_said 1 = .ok (.aload_n 0, 1) := by decide +kernel
theorem dX8_said_2 : decode cX8_said 2 = .ok (.getfield 22, 3) := by decide +kernel
theorem dX8_said_5 : decode cX8_said 5 = .ok (.iconst 2, 1) := by decide +kernel
theorem dX8_said_6 : decode cX8_said 6 = .ok (.iaload, 1) := by decide +kernel
theorem dX8_said_7 : decode cX8_said 7 = .ok (.aload_n 0, 1) := by decide +kernel
theorem dX8_said_8 : decode cX8_said 8 = .ok (.aload_n 0, 1) := by decide +kernel
theorem dX8_said_9 : decode cX8_said 9 = .ok (.getfield 22, 3) := by decide +kernel
theorem dX8_said_12 : decode cX8_said 12 = .ok (.iconst 2, 1) := by decide +kernel
theorem dX8_said_13 : decode cX8_said 13 = .ok (.iaload, 1) := by decide +kernel
theorem dX8_said_14 : decode cX8_said 14 = .ok (.invokevirtual 159, 3) := by decide +kernel
theorem dX8_said_17 : decode cX8_said 17 = .ok (.invokevirtual 162, 3) := by decide +kernel
theorem dX8_said_20 : decode cX8_said 20 = .ok (.ireturn, 1) := by decide +kernel
set_option maxRecDepth 20000 in
theorem ggX8_keep_X8_in : GoodIn wsX8_keep wsX8_in := goodIn_r _ [8] (by decide +kernel) (by decide +kernel)
set_option maxRecDepth 20000 in
theorem gX8_keep_X8_in : GoodIn wsX8_keep (va_wsS RX8 61 yX8_in wsX8_in) := goodIn_app (goodIn_of _ (by decide +kernel)) ggX8_keep_X8_in
set_option maxRecDepth 20000 in
theorem ggX8_keep_X8_copies : GoodIn wsX8_keep wsX8_copies := goodIn_r _ [11] (by decide +kernel) (by decide +kernel)
set_option maxRecDepth 20000 in
theorem gX8_keep_X8_copies : GoodIn wsX8_keep (va_wsS RX8 100 yX8_copies wsX8_copies) := goodIn_app (goodIn_of _ (by decide +kernel)) ggX8_keep_X8_copies
theorem dX8_keep_0 : decode cX8_keep 0 = .ok (.iload_n 1, 1) := by decide +kernel
theorem dX8_keep_1 : decode cX8_keep 1 = .ok (.i2l, 1) := by decide +kernel
theorem dX8_keep_2 : decode cX8_keep 2 = .ok (.lconst 0, 1) := by decide +kernel
theorem dX8_keep_3 : decode cX8_keep 3 = .ok (.ldc2_w 165, 3) := by decide +kernel
theorem dX8_keep_6 : decode cX8_keep 6 = .ok (.invokestatic 61, 3) := by decide +kernel
theorem dX8_keep_9 : decode cX8_keep 9 = .ok (.ifCond .ne 5, 3) := by decide +kernel
theorem dX8_keep_12 : decode cX8_keep 12 = .ok (.iconst (-1), 1) := by decide +kernel
theorem dX8_keep_13 : decode cX8_keep 13 = .ok (.ireturn, 1) := by decide +kernel
theorem dX8_keep_14 : decode cX8_keep 14 = .ok (.aload_n 0, 1) := by decide +kernel
theorem dX8_keep_15 : decode cX8_keep 15 = .ok (.getfield 22, 3) := by decide +kernel
theorem dX8_keep_18 : decode cX8_keep 18 = .ok (.iconst 0, 1) := by decide +kernel
theorem dX8_keep_19 : decode cX8_keep 19 = .ok (.iaload, 1) := by decide +kernel
theorem dX8_keep_20 : decode cX8_keep 20 = .ok (.ifCond .ne 6, 3) := by decide +kernel
theorem dX8_keep_23 : decode cX8_keep 23 = .ok (.bipush (-4), 2) := by decide +kernel
theorem dX8_keep_25 : decode cX8_keep 25 = .ok (.ireturn, 1) := by decide +kernel
theorem dX8_keep_26 : decode cX8_keep 26 = .ok (.aload_n 0, 1) := by decide +kernel
theorem dX8_keep_27 : decode cX8_keep 27 = .ok (.getfield 22, 3) := by decide +kernel
theorem dX8_keep_30 : decode cX8_keep 30 = .ok (.iconst 0, 1) := by decide +kernel
theorem dX8_keep_31 : decode cX8_keep 31 = .ok (.aload_n 0, 1) := by decide +kernel
theorem dX8_keep_32 : decode cX8_keep 32 = .ok (.getfield 25, 3) := by decide +kernel
theorem dX8_keep_35 : decode cX8_keep 35 = .ok (.bipush 115, 2) := by decide +kernel
theorem dX8_keep_37 : decode cX8_keep 37 = .ok (.iload_n 1, 1) := by decide +kernel
theorem dX8_keep_38 : decode cX8_keep 38 = .ok (.imul, 1) := by decide +kernel
theorem dX8_keep_39 : decode cX8_keep 39 = .ok (.invokestatic 100, 3) := by decide +kernel
theorem dX8_keep_42 : decode cX8_keep 42 = .ok (.aload_n 0, 1) := by decide +kernel
theorem dX8_keep_43 : decode cX8_keep 43 = .ok (.getfield 28, 3) := by decide +kernel
theorem dX8_keep_46 : decode cX8_keep 46 = .ok (.iload_n 1, 1) := by decide +kernel
theorem dX8_keep_47 : decode cX8_keep 47 = .ok (.iconst 1, 1) := by decide +kernel
theorem dX8_keep_48 : decode cX8_keep 48 = .ok (.bastore, 1) := by decide +kernel
theorem dX8_keep_49 : decode cX8_keep 49 = .ok (.aload_n 0, 1) := by decide +kernel
theorem dX8_keep_50 : decode cX8_keep 50 = .ok (.getfield 22, 3) := by decide +kernel
theorem dX8_keep_53 : decode cX8_keep 53 = .ok (.iconst 1, 1) := by decide +kernel
theorem dX8_keep_54 : decode cX8_keep 54 = .ok (.iaload, 1) := by decide +kernel
theorem dX8_keep_55 : decode cX8_keep 55 = .ok (.ireturn, 1) := by decide +kernel
set_option maxRecDepth 20000 in
theorem ggX8_on_X8_in : GoodIn wsX8_on wsX8_in := goodIn_r _ [8] (by decide +kernel) (by decide +kernel)
set_option maxRecDepth 20000 in
theorem gX8_on_X8_in : GoodIn wsX8_on (va_wsS RX8 61 yX8_in wsX8_in) := goodIn_app (goodIn_of _ (by decide +kernel)) ggX8_on_X8_in
set_option maxRecDepth 20000 in
theorem ggX8_on_X8_found : GoodIn wsX8_on wsX8_found := goodIn_r _ [12, 13, 14, 18, 19, 20, 21, 22, 23, 24, 25, 26, 27, 28, 29, 30, 31, 32, 33, 34] (by decide +kernel) (by decide +kernel)
set_option maxRecDepth 20000 in
theorem gX8_on_X8_found : GoodIn wsX8_on (wsV RX8 71 RX8 yX8_found wsX8_found) := goodIn_app (goodIn_of _ (by decide +kernel)) ggX8_on_X8_found
set_option maxRecDepth 20000 in
theorem ggX8_on_X8_copies : GoodIn wsX8_on wsX8_copies := goodIn_r _ [17] (by decide +kernel) (by decide +kernel)
set_option maxRecDepth 20000 in
theorem gX8_on_X8_copies : GoodIn wsX8_on (va_wsS RX8 100 yX8_copies wsX8_copies) := goodIn_app (goodIn_of _ (by decide +kernel)) ggX8_on_X8_copies
theorem dX8_on_0 : decode cX8_on 0 = .ok (.iload_n 1, 1) := by decide +kernel
theorem dX8_on_1 : decode cX8_on 1 = .ok (.i2l, 1) := by decide +kernel
theorem dX8_on_2 : decode cX8_on 2 = .ok (.lconst 0, 1) := by decide +kernel
theorem dX8_on_3 : decode cX8_on 3 = .ok (.ldc2_w 165, 3) := by decide +kernel
theorem dX8_on_6 : decode cX8_on 6 = .ok (.invokestatic 61, 3) := by decide +kernel
theorem dX8_on_9 : decode cX8_on 9 = .ok (.ifCond .ne 5, 3) := by decide +kernel
theorem dX8_on_12 : decode cX8_on 12 = .ok (.iconst (-1), 1) := by decide +kernel
theorem dX8_on_13 : decode cX8_on 13 = .ok (.ireturn, 1) := by decide +kernel
theorem dX8_on_14 : decode cX8_on 14 = .ok (.aload_n 0, 1) := by decide +kernel
theorem dX8_on_15 : decode cX8_on 15 = .ok (.getfield 28, 3) := by decide +kernel
theorem dX8_on_18 : decode cX8_on 18 = .ok (.iload_n 1, 1) := by decide +kernel
theorem dX8_on_19 : decode cX8_on 19 = .ok (.baload, 1) := by decide +kernel
theorem dX8_on_20 : decode cX8_on 20 = .ok (.ifCond .ne 9, 3) := by decide +kernel
theorem dX8_on_23 : decode cX8_on 23 = .ok (.aload_n 0, 1) := by decide +kernel
theorem dX8_on_24 : decode cX8_on 24 = .ok (.iconst 1, 1) := by decide +kernel
theorem dX8_on_25 : decode cX8_on 25 = .ok (.invokevirtual 71, 3) := by decide +kernel
theorem dX8_on_28 : decode cX8_on 28 = .ok (.ireturn, 1) := by decide +kernel
theorem dX8_on_29 : decode cX8_on 29 = .ok (.aload_n 0, 1) := by decide +kernel
theorem dX8_on_30 : decode cX8_on 30 = .ok (.getfield 25, 3) := by decide +kernel
theorem dX8_on_33 : decode cX8_on 33 = .ok (.bipush 115, 2) := by decide +kernel
theorem dX8_on_35 : decode cX8_on 35 = .ok (.iload_n 1, 1) := by decide +kernel
theorem dX8_on_36 : decode cX8_on 36 = .ok (.imul, 1) := by decide +kernel
theorem dX8_on_37 : decode cX8_on 37 = .ok (.aload_n 0, 1) := by decide +kernel
theorem dX8_on_38 : decode cX8_on 38 = .ok (.getfield 22, 3) := by decide +kernel
theorem dX8_on_41 : decode cX8_on 41 = .ok (.iconst 0, 1) := by decide +kernel
theorem dX8_on_42 : decode cX8_on 42 = .ok (.invokestatic 100, 3) := by decide +kernel
theorem dX8_on_45 : decode cX8_on 45 = .ok (.aload_n 0, 1) := by decide +kernel
theorem dX8_on_46 : decode cX8_on 46 = .ok (.getfield 22, 3) := by decide +kernel
theorem dX8_on_49 : decode cX8_on 49 = .ok (.iconst 1, 1) := by decide +kernel
theorem dX8_on_50 : decode cX8_on 50 = .ok (.iaload, 1) := by decide +kernel
theorem dX8_on_51 : decode cX8_on 51 = .ok (.ireturn, 1) := by decide +kernel
set_option maxRecDepth 20000 in
theorem ggX8_leans_X8_isSaying : GoodIn wsX8_leans wsX8_isSaying := goodIn_r _ [5, 6, 7, 8, 4, 9, 14, 15, 16, 17, 18, 19, 20, 21, 22, 23, 24, 25, 26, 27, 28, 29, 30] (by decide +kernel) (by decide +kernel)
set_option maxRecDepth 20000 in
theorem gX8_leans_X8_isSaying : GoodIn wsX8_leans (wsV RX8 122 RX8 yX8_isSaying wsX8_isSaying) := goodIn_app (goodIn_of _ (by decide +kernel)) ggX8_leans_X8_isSaying
set_option maxRecDepth 20000 in
theorem ggX8_leans_X8_leansOf : GoodIn wsX8_leans wsX8_leansOf := goodIn_r _ [13, 6, 14, 15, 16, 17, 18, 19, 20, 21, 22, 23, 24, 25, 26, 27, 28, 29, 30] (by decide +kernel) (by decide +kernel)
set_option maxRecDepth 20000 in
theorem gX8_leans_X8_leansOf : GoodIn wsX8_leans (wsV RX8 167 RX8 yX8_leansOf wsX8_leansOf) := goodIn_app (goodIn_of _ (by decide +kernel)) ggX8_leans_X8_leansOf
theorem dX8_leans_0 : decode cX8_leans 0 = .ok (.aload_n 0, 1) := by decide +kernel
theorem dX8_leans_1 : decode cX8_leans 1 = .ok (.iload_n 1, 1) := by decide +kernel
theorem dX8_leans_2 : decode cX8_leans 2 = .ok (.invokevirtual 122, 3) := by decide +kernel
theorem dX8_leans_5 : decode cX8_leans 5 = .ok (.ifCond .eq 11, 3) := by decide +kernel
theorem dX8_leans_8 : decode cX8_leans 8 = .ok (.aload_n 0, 1) := by decide +kernel
theorem dX8_leans_9 : decode cX8_leans 9 = .ok (.iload_n 1, 1) := by decide +kernel
theorem dX8_leans_10 : decode cX8_leans 10 = .ok (.invokevirtual 167, 3) := by decide +kernel
theorem dX8_leans_13 : decode cX8_leans 13 = .ok (.goto 4, 3) := by decide +kernel
theorem dX8_leans_16 : decode cX8_leans 16 = .ok (.iconst (-1), 1) := by decide +kernel
theorem dX8_leans_17 : decode cX8_leans 17 = .ok (.ireturn, 1) := by decide +kernel
set_option maxRecDepth 20000 in
theorem ggX8_feeds_X8_isSaying : GoodIn wsX8_feeds wsX8_isSaying := goodIn_r _ [6, 1, 7, 8, 5, 9, 17, 18, 19, 20, 21, 22, 23, 24, 25, 26, 27, 28, 29, 30, 31, 32, 33] (by decide +kernel) (by decide +kernel)
set_option maxRecDepth 20000 in
theorem gX8_feeds_X8_isSaying : GoodIn wsX8_feeds (wsV RX8 122 RX8 yX8_isSaying wsX8_isSaying) := goodIn_app (goodIn_of _ (by decide +kernel)) ggX8_feeds_X8_isSaying
set_option maxRecDepth 20000 in
theorem ggX8_feeds_X8_leansOf : GoodIn wsX8_feeds wsX8_leansOf := goodIn_r _ [13, 1, 17, 18, 19, 20, 21, 22, 23, 24, 25, 26, 27, 28, 29, 30, 31, 32, 33] (by decide +kernel) (by decide +kernel)
set_option maxRecDepth 20000 in
theorem gX8_feeds_X8_leansOf : GoodIn wsX8_feeds (wsV RX8 167 RX8 yX8_leansOf wsX8_leansOf) := goodIn_app (goodIn_of _ (by decide +kernel)) ggX8_feeds_X8_leansOf
set_option maxRecDepth 20000 in
theorem ggX8_feeds_X8_has : GoodIn wsX8_feeds wsX8_has := goodIn_r _ [16] (by decide +kernel) (by decide +kernel)
set_option maxRecDepth 20000 in
theorem gX8_feeds_X8_has : GoodIn wsX8_feeds (va_wsS RX8 104 yX8_has wsX8_has) := goodIn_app (goodIn_of _ (by decide +kernel)) ggX8_feeds_X8_has
theorem dX8_feeds_0 : decode cX8_feeds 0 = .ok (.aload_n 0, 1) := by decide +kernel
theorem dX8_feeds_1 : decode cX8_feeds 1 = .ok (.iload_n 1, 1) := by decide +kernel
theorem dX8_feeds_2 : decode cX8_feeds 2 = .ok (.invokevirtual 122, 3) := by decide +kernel
theorem dX8_feeds_5 : decode cX8_feeds 5 = .ok (.ifCond .ne 5, 3) := by decide +kernel
theorem dX8_feeds_8 : decode cX8_feeds 8 = .ok (.iconst (-1), 1) := by decide +kernel
theorem dX8_feeds_9 : decode cX8_feeds 9 = .ok (.ireturn, 1) := by decide +kernel
theorem dX8_feeds_10 : decode cX8_feeds 10 = .ok (.iconst 0, 1) := by decide +kernel
theorem dX8_feeds_11 : decode cX8_feeds 11 = .ok (.istore_n 2, 1) := by decide +kernel
theorem dX8_feeds_12 : decode cX8_feeds 12 = .ok (.iconst 0, 1) := by decide +kernel
theorem dX8_feeds_13 : decode cX8_feeds 13 = .ok (.istore_n 3, 1) := by decide +kernel
theorem dX8_feeds_14 : decode cX8_feeds 14 = .ok (.iload_n 3, 1) := by decide +kernel
theorem dX8_feeds_15 : decode cX8_feeds 15 = .ok (.aload_n 0, 1) := by decide +kernel
theorem dX8_feeds_16 : decode cX8_feeds 16 = .ok (.getfield 22, 3) := by decide +kernel
theorem dX8_feeds_19 : decode cX8_feeds 19 = .ok (.iconst 0, 1) := by decide +kernel
theorem dX8_feeds_20 : decode cX8_feeds 20 = .ok (.iaload, 1) := by decide +kernel
theorem dX8_feeds_21 : decode cX8_feeds 21 = .ok (.if_icmp .ge 31, 3) := by decide +kernel
theorem dX8_feeds_24 : decode cX8_feeds 24 = .ok (.iload_n 2, 1) := by decide +kernel
theorem dX8_feeds_25 : decode cX8_feeds 25 = .ok (.aload_n 0, 1) := by decide +kernel
theorem dX8_feeds_26 : decode cX8_feeds 26 = .ok (.iload_n 3, 1) := by decide +kernel
theorem dX8_feeds_27 : decode cX8_feeds 27 = .ok (.invokevirtual 167, 3) := by decide +kernel
theorem dX8_feeds_30 : decode cX8_feeds 30 = .ok (.iload_n 1, 1) := by decide +kernel
theorem dX8_feeds_31 : decode cX8_feeds 31 = .ok (.invokestatic 104, 3) := by decide +kernel
theorem dX8_feeds_34 : decode cX8_feeds 34 = .ok (.ifCond .eq 9, 3) := by decide +kernel
theorem dX8_feeds_37 : decode cX8_feeds 37 = .ok (.iconst 1, 1) := by decide +kernel
theorem dX8_feeds_38 : decode cX8_feeds 38 = .ok (.iload_n 3, 1) := by decide +kernel
theorem dX8_feeds_39 : decode cX8_feeds 39 = .ok (.ishl, 1) := by decide +kernel
theorem dX8_feeds_40 : decode cX8_feeds 40 = .ok (.goto 4, 3) := by decide +kernel
theorem dX8_feeds_43 : decode cX8_feeds 43 = .ok (.iconst 0, 1) := by decide +kernel
theorem dX8_feeds_44 : decode cX8_feeds 44 = .ok (.ior, 1) := by decide +kernel
theorem dX8_feeds_45 : decode cX8_feeds 45 = .ok (.istore_n 2, 1) := by decide +kernel
theorem dX8_feeds_46 : decode cX8_feeds 46 = .ok (.iinc 3 1, 3) := by decide +kernel
theorem dX8_feeds_49 : decode cX8_feeds 49 = .ok (.goto (-35), 3) := by decide +kernel
theorem dX8_feeds_52 : decode cX8_feeds 52 = .ok (.iload_n 2, 1) := by decide +kernel
theorem dX8_feeds_53 : decode cX8_feeds 53 = .ok (.ireturn, 1) := by decide +kernel
set_option maxRecDepth 20000 in
theorem ggX8_first_X8_isSaying : GoodIn wsX8_first wsX8_isSaying := goodIn_r _ [5, 6, 7, 8, 4, 9, 26, 27, 28, 29, 30, 31, 32, 33, 34, 35, 36, 37, 38, 39, 40, 41, 42] (by decide +kernel) (by decide +kernel)
set_option maxRecDepth 20000 in
theorem gX8_first_X8_isSaying : GoodIn wsX8_first (wsV RX8 122 RX8 yX8_isSaying wsX8_isSaying) := goodIn_app (goodIn_of _ (by decide +kernel)) ggX8_first_X8_isSaying
set_option maxRecDepth 20000 in
theorem ggX8_first_X8_rootOf : GoodIn wsX8_first wsX8_rootOf := goodIn_r _ [13, 6, 26, 27, 28, 29, 30, 31, 32, 33, 34, 35, 36, 37, 38, 39, 40, 41, 42] (by decide +kernel) (by decide +kernel)
set_option maxRecDepth 20000 in
theorem gX8_first_X8_rootOf : GoodIn wsX8_first (wsV RX8 139 RX8 yX8_rootOf wsX8_rootOf) := goodIn_app (goodIn_of _ (by decide +kernel)) ggX8_first_X8_rootOf
set_option maxRecDepth 20000 in
theorem ggX8_first_X8_leansOf : GoodIn wsX8_first wsX8_leansOf := goodIn_r _ [17, 6, 26, 27, 28, 29, 30, 31, 32, 33, 34, 35, 36, 37, 38, 39, 40, 41, 42] (by decide +kernel) (by decide +kernel)
set_option maxRecDepth 20000 in
theorem gX8_first_X8_leansOf : GoodIn wsX8_first (wsV RX8 167 RX8 yX8_leansOf wsX8_leansOf) := goodIn_app (goodIn_of _ (by decide +kernel)) ggX8_first_X8_leansOf
set_option maxRecDepth 20000 in
theorem ggX8_first_X8_bits : GoodIn wsX8_first wsX8_bits := goodIn_r _ [20] (by decide +kernel) (by decide +kernel)
set_option maxRecDepth 20000 in
theorem gX8_first_X8_bits : GoodIn wsX8_first (va_wsS RX8 136 yX8_bits wsX8_bits) := goodIn_app (goodIn_of _ (by decide +kernel)) ggX8_first_X8_bits
set_option maxRecDepth 20000 in
theorem ggX8_first_X8_answer : GoodIn wsX8_first wsX8_answer := goodIn_r _ [24, 25, 26, 27, 28, 29, 30, 31, 32, 33, 34, 35, 36, 37, 38, 39, 40, 41, 42] (by decide +kernel) (by decide +kernel)
set_option maxRecDepth 20000 in
theorem gX8_first_X8_answer : GoodIn wsX8_first (wsV RX8 162 RX8 yX8_answer wsX8_answer) := goodIn_app (goodIn_of _ (by decide +kernel)) ggX8_first_X8_answer
theorem dX8_first_0 : decode cX8_first 0 = .ok (.aload_n 0, 1) := by decide +kernel
theorem dX8_first_1 : decode cX8_first 1 = .ok (.iload_n 1, 1) := by decide +kernel
theorem dX8_first_2 : decode cX8_first 2 = .ok (.invokevirtual 122, 3) := by decide +kernel
theorem dX8_first_5 : decode cX8_first 5 = .ok (.ifCond .eq 23, 3) := by decide +kernel
theorem dX8_first_8 : decode cX8_first 8 = .ok (.aload_n 0, 1) := by decide +kernel
theorem dX8_first_9 : decode cX8_first 9 = .ok (.aload_n 0, 1) := by decide +kernel
theorem dX8_first_10 : decode cX8_first 10 = .ok (.iload_n 1, 1) := by decide +kernel
theorem dX8_first_11 : decode cX8_first 11 = .ok (.invokevirtual 139, 3) := by decide +kernel
theorem dX8_first_14 : decode cX8_first 14 = .ok (.aload_n 0, 1) := by decide +kernel
theorem dX8_first_15 : decode cX8_first 15 = .ok (.iload_n 1, 1) := by decide +kernel
theorem dX8_first_16 : decode cX8_first 16 = .ok (.invokevirtual 167, 3) := by decide +kernel
theorem dX8_first_19 : decode cX8_first 19 = .ok (.invokestatic 136, 3) := by decide +kernel
theorem dX8_first_22 : decode cX8_first 22 = .ok (.invokevirtual 162, 3) := by decide +kernel
theorem dX8_first_25 : decode cX8_first 25 = .ok (.goto 4, 3) := by decide +kernel
theorem dX8_first_28 : decode cX8_first 28 = .ok (.iconst (-1), 1) := by decide +kernel
theorem dX8_first_29 : decode cX8_first 29 = .ok (.ireturn, 1) := by decide +kernel
set_option maxRecDepth 20000 in
theorem ggX8_bundles_X8_has : GoodIn wsX8_bundles wsX8_has := goodIn_r _ [5] (by decide +kernel) (by decide +kernel)
set_option maxRecDepth 20000 in
theorem gX8_bundles_X8_has : GoodIn wsX8_bundles (va_wsS RX8 104 yX8_has wsX8_has) := goodIn_app (goodIn_of _ (by decide +kernel)) ggX8_bundles_X8_has
set_option maxRecDepth 20000 in
theorem ggX8_bundles_X8_rootOf : GoodIn wsX8_bundles wsX8_rootOf := goodIn_r _ [9, 1, 18, 19, 20, 21, 22, 23, 24, 25, 26, 27, 28, 29, 30, 31, 32, 33, 34] (by decide +kernel) (by decide +kernel)
set_option maxRecDepth 20000 in
theorem gX8_bundles_X8_rootOf : GoodIn wsX8_bundles (wsV RX8 139 RX8 yX8_rootOf wsX8_rootOf) := goodIn_app (goodIn_of _ (by decide +kernel)) ggX8_bundles_X8_rootOf
set_option maxRecDepth 20000 in
theorem ggX8_bundles_X8_bits : GoodIn wsX8_bundles wsX8_bits := goodIn_r _ [12] (by decide +kernel) (by decide +kernel)
set_option maxRecDepth 20000 in
theorem gX8_bundles_X8_bits : GoodIn wsX8_bundles (va_wsS RX8 136 yX8_bits wsX8_bits) := goodIn_app (goodIn_of _ (by decide +kernel)) ggX8_bundles_X8_bits
set_option maxRecDepth 20000 in
theorem ggX8_bundles_X8_answer : GoodIn wsX8_bundles wsX8_answer := goodIn_r _ [16, 17, 18, 19, 20, 21, 22, 23, 24, 25, 26, 27, 28, 29, 30, 31, 32, 33, 34] (by decide +kernel) (by decide +kernel)
set_option maxRecDepth 20000 in
theorem gX8_bundles_X8_answer : GoodIn wsX8_bundles (wsV RX8 162 RX8 yX8_answer wsX8_answer) := goodIn_app (goodIn_of _ (by decide +kernel)) ggX8_bundles_X8_answer
theorem dX8_bundles_0 : decode cX8_bundles 0 = .ok (.iconst 0, 1) := by decide +kernel
theorem dX8_bundles_1 : decode cX8_bundles 1 = .ok (.istore_n 1, 1) := by decide +kernel
theorem dX8_bundles_2 : decode cX8_bundles 2 = .ok (.iconst 0, 1) := by decide +kernel
theorem dX8_bundles_3 : decode cX8_bundles 3 = .ok (.istore_n 2, 1) := by decide +kernel
theorem dX8_bundles_4 : decode cX8_bundles 4 = .ok (.iload_n 2, 1) := by decide +kernel
theorem dX8_bundles_5 : decode cX8_bundles 5 = .ok (.aload_n 0, 1) := by decide +kernel
theorem dX8_bundles_6 : decode cX8_bundles 6 = .ok (.getfield 22, 3) := by decide +kernel
theorem dX8_bundles_9 : decode cX8_bundles 9 = .ok (.iconst 0, 1) := by decide +kernel
theorem dX8_bundles_10 : decode cX8_bundles 10 = .ok (.iaload, 1) := by decide +kernel
theorem dX8_bundles_11 : decode cX8_bundles 11 = .ok (.if_icmp .ge 36, 3) := by decide +kernel
theorem dX8_bundles_14 : decode cX8_bundles 14 = .ok (.iload_n 1, 1) := by decide +kernel
theorem dX8_bundles_15 : decode cX8_bundles 15 = .ok (.aload_n 0, 1) := by decide +kernel
theorem dX8_bundles_16 : decode cX8_bundles 16 = .ok (.getfield 22, 3) := by decide +kernel
theorem dX8_bundles_19 : decode cX8_bundles 19 = .ok (.iconst 2, 1) := by decide +kernel
theorem dX8_bundles_20 : decode cX8_bundles 20 = .ok (.iaload, 1) := by decide +kernel
theorem dX8_bundles_21 : decode cX8_bundles 21 = .ok (.iload_n 2, 1) := by decide +kernel
theorem dX8_bundles_22 : decode cX8_bundles 22 = .ok (.invokestatic 104, 3) := by decide +kernel
theorem dX8_bundles_25 : decode cX8_bundles 25 = .ok (.ifCond .eq 13, 3) := by decide +kernel
theorem dX8_bundles_28 : decode cX8_bundles 28 = .ok (.iconst 1, 1) := by decide +kernel
theorem dX8_bundles_29 : decode cX8_bundles 29 = .ok (.aload_n 0, 1) := by decide +kernel
theorem dX8_bundles_30 : decode cX8_bundles 30 = .ok (.iload_n 2, 1) := by decide +kernel
theorem dX8_bundles_31 : decode cX8_bundles 31 = .ok (.invokevirtual 139, 3) := by decide +kernel
theorem dX8_bundles_34 : decode cX8_bundles 34 = .ok (.ishl, 1) := by decide +kernel
theorem dX8_bundles_35 : decode cX8_bundles 35 = .ok (.goto 4, 3) := by decide +kernel
theorem dX8_bundles_38 : decode cX8_bundles 38 = .ok (.iconst 0, 1) := by decide +kernel
theorem dX8_bundles_39 : decode cX8_bundles 39 = .ok (.ior, 1) := by decide +kernel
theorem dX8_bundles_40 : decode cX8_bundles 40 = .ok (.istore_n 1, 1) := by decide +kernel
theorem dX8_bundles_41 : decode cX8_bundles 41 = .ok (.iinc 2 1, 3) := by decide +kernel
theorem dX8_bundles_44 : decode cX8_bundles 44 = .ok (.goto (-40), 3) := by decide +kernel
theorem dX8_bundles_47 : decode cX8_bundles 47 = .ok (.aload_n 0, 1) := by decide +kernel
theorem dX8_bundles_48 : decode cX8_bundles 48 = .ok (.iload_n 1, 1) := by decide +kernel
theorem dX8_bundles_49 : decode cX8_bundles 49 = .ok (.invokestatic 136, 3) := by decide +kernel
theorem dX8_bundles_52 : decode cX8_bundles 52 = .ok (.iload_n 1, 1) := by decide +kernel
theorem dX8_bundles_53 : decode cX8_bundles 53 = .ok (.invokevirtual 162, 3) := by decide +kernel
theorem dX8_bundles_56 : decode cX8_bundles 56 = .ok (.ireturn, 1) := by decide +kernel
set_option maxRecDepth 20000 in
theorem ggX8_longest_X8_isRow : GoodIn wsX8_longest wsX8_isRow := goodIn_r _ [6, 7, 8, 9, 5, 10] (by decide +kernel) (by decide +kernel)
set_option maxRecDepth 20000 in
theorem gX8_longest_X8_isRow : GoodIn wsX8_longest (va_wsS RX8 67 yX8_isRow wsX8_isRow) := goodIn_app (goodIn_of _ (by decide +kernel)) ggX8_longest_X8_isRow
set_option maxRecDepth 20000 in
theorem ggX8_longest_X8_leansOf : GoodIn wsX8_longest wsX8_leansOf := goodIn_r _ [14, 1, 29, 30, 31, 32, 33, 34, 35, 36, 37, 38, 39, 40, 41, 42, 43, 44, 45] (by decide +kernel) (by decide +kernel)
set_option maxRecDepth 20000 in
theorem gX8_longest_X8_leansOf : GoodIn wsX8_longest (wsV RX8 167 RX8 yX8_leansOf wsX8_leansOf) := goodIn_app (goodIn_of _ (by decide +kernel)) ggX8_longest_X8_leansOf
set_option maxRecDepth 20000 in
theorem ggX8_longest_X8_bits : GoodIn wsX8_longest wsX8_bits := goodIn_r _ [17] (by decide +kernel) (by decide +kernel)
set_option maxRecDepth 20000 in
theorem gX8_longest_X8_bits : GoodIn wsX8_longest (va_wsS RX8 136 yX8_bits wsX8_bits) := goodIn_app (goodIn_of _ (by decide +kernel)) ggX8_longest_X8_bits
set_option maxRecDepth 20000 in
theorem ggX8_longest_X8_row : GoodIn wsX8_longest wsX8_row := goodIn_r _ [21, 22, 2, 3, 4, 5, 6, 7, 8, 9, 10, 23, 24, 25, 26, 27, 28, 29, 30, 31, 32, 33, 34, 35, 36, 37, 38, 39, 40, 41, 42, 43, 44, 45] (by decide +kernel) (by decide +kernel)
set_option maxRecDepth 20000 in
theorem gX8_longest_X8_row : GoodIn wsX8_longest (wsV RX8 170 RX8 yX8_row wsX8_row) := goodIn_app (goodIn_of _ (by decide +kernel)) ggX8_longest_X8_row
theorem dX8_longest_0 : decode cX8_longest 0 = .ok (.iload_n 1, 1) := by decide +kernel
theorem dX8_longest_1 : decode cX8_longest 1 = .ok (.invokestatic 67, 3) := by decide +kernel
theorem dX8_longest_4 : decode cX8_longest 4 = .ok (.ifCond .ne 5, 3) := by decide +kernel
theorem dX8_longest_7 : decode cX8_longest 7 = .ok (.iconst (-1), 1) := by decide +kernel
theorem dX8_longest_8 : decode cX8_longest 8 = .ok (.ireturn, 1) := by decide +kernel
theorem dX8_longest_9 : decode cX8_longest 9 = .ok (.iconst 0, 1) := by decide +kernel
theorem dX8_longest_10 : decode cX8_longest 10 = .ok (.istore_n 2, 1) := by decide +kernel
theorem dX8_longest_11 : decode cX8_longest 11 = .ok (.bipush (-9), 2) := by decide +kernel
theorem dX8_longest_13 : decode cX8_longest 13 = .ok (.istore_n 3, 1) := by decide +kernel
theorem dX8_longest_14 : decode cX8_longest 14 = .ok (.iconst 0, 1) := by decide +kernel
theorem dX8_longest_15 : decode cX8_longest 15 = .ok (.istore 4, 2) := by decide +kernel
theorem dX8_longest_17 : decode cX8_longest 17 = .ok (.iload 4, 2) := by decide +kernel
theorem dX8_longest_19 : decode cX8_longest 19 = .ok (.aload_n 0, 1) := by decide +kernel
theorem dX8_longest_20 : decode cX8_longest 20 = .ok (.getfield 22, 3) := by decide +kernel
theorem dX8_longest_23 : decode cX8_longest 23 = .ok (.iconst 0, 1) := by decide +kernel
theorem dX8_longest_24 : decode cX8_longest 24 = .ok (.iaload, 1) := by decide +kernel
theorem dX8_longest_25 : decode cX8_longest 25 = .ok (.if_icmp .ge 48, 3) := by decide +kernel
theorem dX8_longest_28 : decode cX8_longest 28 = .ok (.iconst 1, 1) := by decide +kernel
theorem dX8_longest_29 : decode cX8_longest 29 = .ok (.aload_n 0, 1) := by decide +kernel
theorem dX8_longest_30 : decode cX8_longest 30 = .ok (.iload 4, 2) := by decide +kernel
theorem dX8_longest_32 : decode cX8_longest 32 = .ok (.invokevirtual 167, 3) := by decide +kernel
theorem dX8_longest_35 : decode cX8_longest 35 = .ok (.invokestatic 136, 3) := by decide +kernel
theorem dX8_longest_38 : decode cX8_longest 38 = .ok (.iadd, 1) := by decide +kernel
theorem dX8_longest_39 : decode cX8_longest 39 = .ok (.istore 5, 2) := by decide +kernel
theorem dX8_longest_41 : decode cX8_longest 41 = .ok (.iload 5, 2) := by decide +kernel
theorem dX8_longest_43 : decode cX8_longest 43 = .ok (.iload_n 2, 1) := by decide +kernel
theorem dX8_longest_44 : decode cX8_longest 44 = .ok (.if_icmp .le 8, 3) := by decide +kernel
theorem dX8_longest_47 : decode cX8_longest 47 = .ok (.iload 4, 2) := by decide +kernel
theorem dX8_longest_49 : decode cX8_longest 49 = .ok (.goto 4, 3) := by decide +kernel
theorem dX8_longest_52 : decode cX8_longest 52 = .ok (.iload_n 3, 1) := by decide +kernel
theorem dX8_longest_53 : decode cX8_longest 53 = .ok (.istore_n 3, 1) := by decide +kernel
theorem dX8_longest_54 : decode cX8_longest 54 = .ok (.iload 5, 2) := by decide +kernel
theorem dX8_longest_56 : decode cX8_longest 56 = .ok (.iload_n 2, 1) := by decide +kernel
theorem dX8_longest_57 : decode cX8_longest 57 = .ok (.if_icmp .le 8, 3) := by decide +kernel
theorem dX8_longest_60 : decode cX8_longest 60 = .ok (.iload 5, 2) := by decide +kernel
theorem dX8_longest_62 : decode cX8_longest 62 = .ok (.goto 4, 3) := by decide +kernel
theorem dX8_longest_65 : decode cX8_longest 65 = .ok (.iload_n 2, 1) := by decide +kernel
theorem dX8_longest_66 : decode cX8_longest 66 = .ok (.istore_n 2, 1) := by decide +kernel
theorem dX8_longest_67 : decode cX8_longest 67 = .ok (.iinc 4 1, 3) := by decide +kernel
theorem dX8_longest_70 : decode cX8_longest 70 = .ok (.goto (-53), 3) := by decide +kernel
theorem dX8_longest_73 : decode cX8_longest 73 = .ok (.aload_n 0, 1) := by decide +kernel
theorem dX8_longest_74 : decode cX8_longest 74 = .ok (.iload_n 1, 1) := by decide +kernel
theorem dX8_longest_75 : decode cX8_longest 75 = .ok (.iload_n 2, 1) := by decide +kernel
theorem dX8_longest_76 : decode cX8_longest 76 = .ok (.invokevirtual 170, 3) := by decide +kernel
theorem dX8_longest_79 : decode cX8_longest 79 = .ok (.istore 4, 2) := by decide +kernel
theorem dX8_longest_81 : decode cX8_longest 81 = .ok (.iload 4, 2) := by decide +kernel
theorem dX8_longest_83 : decode cX8_longest 83 = .ok (.iconst 1, 1) := by decide +kernel
theorem dX8_longest_84 : decode cX8_longest 84 = .ok (.isub, 1) := by decide +kernel
theorem dX8_longest_85 : decode cX8_longest 85 = .ok (.istore 5, 2) := by decide +kernel
theorem dX8_longest_87 : decode cX8_longest 87 = .ok (.iload 5, 2) := by decide +kernel
theorem dX8_longest_89 : decode cX8_longest 89 = .ok (.ifCond .lt 32, 3) := by decide +kernel
theorem dX8_longest_92 : decode cX8_longest 92 = .ok (.aload_n 0, 1) := by decide +kernel
theorem dX8_longest_93 : decode cX8_longest 93 = .ok (.getfield 13, 3) := by decide +kernel
theorem dX8_longest_96 : decode cX8_longest 96 = .ok (.bipush 40, 2) := by decide +kernel
theorem dX8_longest_98 : decode cX8_longest 98 = .ok (.iload_n 1, 1) := by decide +kernel
theorem dX8_longest_99 : decode cX8_longest 99 = .ok (.imul, 1) := by decide +kernel
theorem dX8_longest_100 : decode cX8_longest 100 = .ok (.iload 5, 2) := by decide +kernel
theorem dX8_longest_102 : decode cX8_longest 102 = .ok (.iadd, 1) := by decide +kernel
theorem dX8_longest_103 : decode cX8_longest 103 = .ok (.iload_n 3, 1) := by decide +kernel
theorem dX8_longest_104 : decode cX8_longest 104 = .ok (.iastore, 1) := by decide +kernel
theorem dX8_longest_105 : decode cX8_longest 105 = .ok (.aload_n 0, 1) := by decide +kernel
theorem dX8_longest_106 : decode cX8_longest 106 = .ok (.getfield 22, 3) := by decide +kernel
theorem dX8_longest_109 : decode cX8_longest 109 = .ok (.bipush 63, 2) := by decide +kernel
theorem dX8_longest_111 : decode cX8_longest 111 = .ok (.iload_n 3, 1) := by decide +kernel
theorem dX8_longest_112 : decode cX8_longest 112 = .ok (.iadd, 1) := by decide +kernel
theorem dX8_longest_113 : decode cX8_longest 113 = .ok (.iaload, 1) := by decide +kernel
theorem dX8_longest_114 : decode cX8_longest 114 = .ok (.istore_n 3, 1) := by decide +kernel
theorem dX8_longest_115 : decode cX8_longest 115 = .ok (.iinc 5 (-1), 3) := by decide +kernel
theorem dX8_longest_118 : decode cX8_longest 118 = .ok (.goto (-31), 3) := by decide +kernel
theorem dX8_longest_121 : decode cX8_longest 121 = .ok (.iload 4, 2) := by decide +kernel
theorem dX8_longest_123 : decode cX8_longest 123 = .ok (.ireturn, 1) := by decide +kernel
set_option maxRecDepth 20000 in
theorem ggX8_layOrders_X8_mayBe : GoodIn wsX8_layOrders wsX8_mayBe := goodIn_r _ [9, 1, 10, 11, 8, 12, 13, 14, 15, 16, 29, 30, 31, 32, 33, 34, 35, 36, 37, 38, 39, 40, 41, 42, 43, 44, 45] (by decide +kernel) (by decide +kernel)
set_option maxRecDepth 20000 in
theorem gX8_layOrders_X8_mayBe : GoodIn wsX8_layOrders (wsV RX8 153 RX8 yX8_mayBe wsX8_mayBe) := goodIn_app (goodIn_of _ (by decide +kernel)) ggX8_layOrders_X8_mayBe
set_option maxRecDepth 20000 in
theorem ggX8_layOrders_X8_price : GoodIn wsX8_layOrders wsX8_price := goodIn_r _ [20, 1, 21, 22, 23, 8, 24, 10, 11, 12, 25, 26, 27, 28, 29, 30, 31, 32, 33, 34, 35, 36, 37, 38, 39, 40, 41, 42, 43, 44, 45] (by decide +kernel) (by decide +kernel)
set_option maxRecDepth 20000 in
theorem gX8_layOrders_X8_price : GoodIn wsX8_layOrders (wsV RX8 119 RX8 yX8_price wsX8_price) := goodIn_app (goodIn_of _ (by decide +kernel)) ggX8_layOrders_X8_price
theorem dX8_layOrders_0 : decode cX8_layOrders 0 = .ok (.aload_n 0, 1) := by decide +kernel
theorem dX8_layOrders_1 : decode cX8_layOrders 1 = .ok (.getfield 22, 3) := by decide +kernel
theorem dX8_layOrders_4 : decode cX8_layOrders 4 = .ok (.iconst 2, 1) := by decide +kernel
theorem dX8_layOrders_5 : decode cX8_layOrders 5 = .ok (.iaload, 1) := by decide +kernel
theorem dX8_layOrders_6 : decode cX8_layOrders 6 = .ok (.istore_n 2, 1) := by decide +kernel
theorem dX8_layOrders_7 : decode cX8_layOrders 7 = .ok (.iconst 0, 1) := by decide +kernel
theorem dX8_layOrders_8 : decode cX8_layOrders 8 = .ok (.istore_n 3, 1) := by decide +kernel
theorem dX8_layOrders_9 : decode cX8_layOrders 9 = .ok (.iload_n 3, 1) := by decide +kernel
theorem dX8_layOrders_10 : decode cX8_layOrders 10 = .ok (.iload_n 2, 1) := by decide +kernel
theorem dX8_layOrders_11 : decode cX8_layOrders 11 = .ok (.if_icmp .gt 160, 3) := by decide +kernel
theorem dX8_layOrders_14 : decode cX8_layOrders 14 = .ok (.aload_n 0, 1) := by decide +kernel
theorem dX8_layOrders_15 : decode cX8_layOrders 15 = .ok (.getfield 42, 3) := by decide +kernel
theorem dX8_layOrders_18 : decode cX8_layOrders 18 = .ok (.iload_n 3, 1) := by decide +kernel
theorem dX8_layOrders_19 : decode cX8_layOrders 19 = .ok (.iload_n 3, 1) := by decide +kernel
theorem dX8_layOrders_20 : decode cX8_layOrders 20 = .ok (.ifCond .ne 7, 3) := by decide +kernel
theorem dX8_layOrders_23 : decode cX8_layOrders 23 = .ok (.iconst 0, 1) := by decide +kernel
theorem dX8_layOrders_24 : decode cX8_layOrders 24 = .ok (.goto 5, 3) := by decide +kernel
theorem dX8_layOrders_27 : decode cX8_layOrders 27 = .ok (.ldc 173, 2) := by decide +kernel
theorem dX8_layOrders_29 : decode cX8_layOrders 29 = .ok (.iastore, 1) := by decide +kernel
theorem dX8_layOrders_30 : decode cX8_layOrders 30 = .ok (.aload_n 0, 1) := by decide +kernel
theorem dX8_layOrders_31 : decode cX8_layOrders 31 = .ok (.getfield 45, 3) := by decide +kernel
theorem dX8_layOrders_34 : decode cX8_layOrders 34 = .ok (.iload_n 3, 1) := by decide +kernel
theorem dX8_layOrders_35 : decode cX8_layOrders 35 = .ok (.iload_n 3, 1) := by decide +kernel
theorem dX8_layOrders_36 : decode cX8_layOrders 36 = .ok (.ifCond .ne 7, 3) := by decide +kernel
theorem dX8_layOrders_39 : decode cX8_layOrders 39 = .ok (.lconst 1, 1) := by decide +kernel
theorem dX8_layOrders_40 : decode cX8_layOrders 40 = .ok (.goto 4, 3) := by decide +kernel
theorem dX8_layOrders_43 : decode cX8_layOrders 43 = .ok (.lconst 0, 1) := by decide +kernel
theorem dX8_layOrders_44 : decode cX8_layOrders 44 = .ok (.lastore, 1) := by decide +kernel
theorem dX8_layOrders_45 : decode cX8_layOrders 45 = .ok (.iconst 0, 1) := by decide +kernel
theorem dX8_layOrders_46 : decode cX8_layOrders 46 = .ok (.istore 4, 2) := by decide +kernel
theorem dX8_layOrders_48 : decode cX8_layOrders 48 = .ok (.iload 4, 2) := by decide +kernel
theorem dX8_layOrders_50 : decode cX8_layOrders 50 = .ok (.aload_n 0, 1) := by decide +kernel
theorem dX8_layOrders_51 : decode cX8_layOrders 51 = .ok (.getfield 22, 3) := by decide +kernel
theorem dX8_layOrders_54 : decode cX8_layOrders 54 = .ok (.iconst 0, 1) := by decide +kernel
theorem dX8_layOrders_55 : decode cX8_layOrders 55 = .ok (.iaload, 1) := by decide +kernel
theorem dX8_layOrders_56 : decode cX8_layOrders 56 = .ok (.if_icmp .ge 109, 3) := by decide +kernel
theorem dX8_layOrders_59 : decode cX8_layOrders 59 = .ok (.iload_n 3, 1) := by decide +kernel
theorem dX8_layOrders_60 : decode cX8_layOrders 60 = .ok (.iload_n 2, 1) := by decide +kernel
theorem dX8_layOrders_61 : decode cX8_layOrders 61 = .ok (.iconst (-1), 1) := by decide +kernel
theorem dX8_layOrders_62 : decode cX8_layOrders 62 = .ok (.ixor, 1) := by decide +kernel
theorem dX8_layOrders_63 : decode cX8_layOrders 63 = .ok (.iand, 1) := by decide +kernel
theorem dX8_layOrders_64 : decode cX8_layOrders 64 = .ok (.ifCond .ne 101, 3) := by decide +kernel
theorem dX8_layOrders_67 : decode cX8_layOrders 67 = .ok (.iload_n 3, 1) := by decide +kernel
theorem dX8_layOrders_68 : decode cX8_layOrders 68 = .ok (.iconst 1, 1) := by decide +kernel
theorem dX8_layOrders_69 : decode cX8_layOrders 69 = .ok (.iload 4, 2) := by decide +kernel
theorem dX8_layOrders_71 : decode cX8_layOrders 71 = .ok (.ishl, 1) := by decide +kernel
theorem dX8_layOrders_72 : decode cX8_layOrders 72 = .ok (.iconst (-1), 1) := by decide +kernel
theorem dX8_layOrders_73 : decode cX8_layOrders 73 = .ok (.ixor, 1) := by decide +kernel
theorem dX8_layOrders_74 : decode cX8_layOrders 74 = .ok (.iand, 1) := by decide +kernel
theorem dX8_layOrders_75 : decode cX8_layOrders 75 = .ok (.istore 5, 2) := by decide +kernel
theorem dX8_layOrders_77 : decode cX8_layOrders 77 = .ok (.aload_n 0, 1) := by decide +kernel
theorem dX8_layOrders_78 : decode cX8_layOrders 78 = .ok (.iload 4, 2) := by decide +kernel
theorem dX8_layOrders_80 : decode cX8_layOrders 80 = .ok (.iload_n 3, 1) := by decide +kernel
theorem dX8_layOrders_81 : decode cX8_layOrders 81 = .ok (.invokevirtual 153, 3) := by decide +kernel
theorem dX8_layOrders_84 : decode cX8_layOrders 84 = .ok (.ifCond .eq 75, 3) := by decide +kernel
theorem dX8_layOrders_87 : decode cX8_layOrders 87 = .ok (.iload 4, 2) := by decide +kernel
theorem dX8_layOrders_89 : decode cX8_layOrders 89 = .ok (.iload_n 1, 1) := by decide +kernel
theorem dX8_layOrders_90 : decode cX8_layOrders 90 = .ok (.if_icmp .ne 8, 3) := by decide +kernel
theorem dX8_layOrders_93 : decode cX8_layOrders 93 = .ok (.iload 5, 2) := by decide +kernel
theorem dX8_layOrders_95 : decode cX8_layOrders 95 = .ok (.ifCond .ne 64, 3) := by decide +kernel
theorem dX8_layOrders_98 : decode cX8_layOrders 98 = .ok (.aload_n 0, 1) := by decide +kernel
theorem dX8_layOrders_99 : decode cX8_layOrders 99 = .ok (.iload 4, 2) := by decide +kernel
theorem dX8_layOrders_101 : decode cX8_layOrders 101 = .ok (.iload_n 3, 1) := by decide +kernel
theorem dX8_layOrders_102 : decode cX8_layOrders 102 = .ok (.invokevirtual 119, 3) := by decide +kernel
theorem dX8_layOrders_105 : decode cX8_layOrders 105 = .ok (.aload_n 0, 1) := by decide +kernel
theorem dX8_layOrders_106 : decode cX8_layOrders 106 = .ok (.getfield 42, 3) := by decide +kernel
theorem dX8_layOrders_109 : decode cX8_layOrders 109 = .ok (.iload 5, 2) := by decide +kernel
theorem dX8_layOrders_111 : decode cX8_layOrders 111 = .ok (.iaload, 1) := by decide +kernel
theorem dX8_layOrders_112 : decode cX8_layOrders 112 = .ok (.iadd, 1) := by decide +kernel
theorem dX8_layOrders_113 : decode cX8_layOrders 113 = .ok (.istore 6, 2) := by decide +kernel
theorem dX8_layOrders_115 : decode cX8_layOrders 115 = .ok (.aload_n 0, 1) := by decide +kernel
theorem dX8_layOrders_116 : decode cX8_layOrders 116 = .ok (.getfield 42, 3) := by decide +kernel
theorem dX8_layOrders_119 : decode cX8_layOrders 119 = .ok (.iload_n 3, 1) := by decide +kernel
theorem dX8_layOrders_120 : decode cX8_layOrders 120 = .ok (.iload 6, 2) := by decide +kernel
theorem dX8_layOrders_122 : decode cX8_layOrders 122 = .ok (.aload_n 0, 1) := by decide +kernel
theorem dX8_layOrders_123 : decode cX8_layOrders 123 = .ok (.getfield 42, 3) := by decide +kernel
theorem dX8_layOrders_126 : decode cX8_layOrders 126 = .ok (.iload_n 3, 1) := by decide +kernel
theorem dX8_layOrders_127 : decode cX8_layOrders 127 = .ok (.iaload, 1) := by decide +kernel
theorem dX8_layOrders_128 : decode cX8_layOrders 128 = .ok (.if_icmp .ge 8, 3) := by decide +kernel
theorem dX8_layOrders_131 : decode cX8_layOrders 131 = .ok (.iload 6, 2) := by decide +kernel
theorem dX8_layOrders_133 : decode cX8_layOrders 133 = .ok (.goto 9, 3) := by decide +kernel
theorem dX8_layOrders_136 : decode cX8_layOrders 136 = .ok (.aload_n 0, 1) := by decide +kernel
theorem dX8_layOrders_137 : decode cX8_layOrders 137 = .ok (.getfield 42, 3) := by decide +kernel
theorem dX8_layOrders_140 : decode cX8_layOrders 140 = .ok (.iload_n 3, 1) := by decide +kernel
theorem dX8_layOrders_141 : decode cX8_layOrders 141 = .ok (.iaload, 1) := by decide +kernel
theorem dX8_layOrders_142 : decode cX8_layOrders 142 = .ok (.iastore, 1) := by decide +kernel
theorem dX8_layOrders_143 : decode cX8_layOrders 143 = .ok (.aload_n 0, 1) := by decide +kernel
theorem dX8_layOrders_144 : decode cX8_layOrders 144 = .ok (.getfield 45, 3) := by decide +kernel
theorem dX8_layOrders_147 : decode cX8_layOrders 147 = .ok (.iload_n 3, 1) := by decide +kernel
theorem dX8_layOrders_148 : decode cX8_layOrders 148 = .ok (.dup2, 1) := by decide +kernel
theorem dX8_layOrders_149 : decode cX8_layOrders 149 = .ok (.laload, 1) := by decide +kernel
theorem dX8_layOrders_150 : decode cX8_layOrders 150 = .ok (.aload_n 0, 1) := by decide +kernel
theorem dX8_layOrders_151 : decode cX8_layOrders 151 = .ok (.getfield 45, 3) := by decide +kernel
theorem dX8_layOrders_154 : decode cX8_layOrders 154 = .ok (.iload 5, 2) := by decide +kernel
theorem dX8_layOrders_156 : decode cX8_layOrders 156 = .ok (.laload, 1) := by decide +kernel
theorem dX8_layOrders_157 : decode cX8_layOrders 157 = .ok (.ladd, 1) := by decide +kernel
theorem dX8_layOrders_158 : decode cX8_layOrders 158 = .ok (.lastore, 1) := by decide +kernel
theorem dX8_layOrders_159 : decode cX8_layOrders 159 = .ok (.iinc 4 1, 3) := by decide +kernel
theorem dX8_layOrders_162 : decode cX8_layOrders 162 = .ok (.goto (-114), 3) := by decide +kernel
theorem dX8_layOrders_165 : decode cX8_layOrders 165 = .ok (.iinc 3 1, 3) := by decide +kernel
theorem dX8_layOrders_168 : decode cX8_layOrders 168 = .ok (.goto (-159), 3) := by decide +kernel
theorem dX8_layOrders_171 : decode cX8_layOrders 171 = .ok (.return_, 1) := by decide +kernel
set_option maxRecDepth 20000 in
theorem ggX8_cheapest_X8_isRow : GoodIn wsX8_cheapest wsX8_isRow := goodIn_r _ [7, 8, 9, 10, 6, 11] (by decide +kernel) (by decide +kernel)
set_option maxRecDepth 20000 in
theorem gX8_cheapest_X8_isRow : GoodIn wsX8_cheapest (va_wsS RX8 67 yX8_isRow wsX8_isRow) := goodIn_app (goodIn_of _ (by decide +kernel)) ggX8_cheapest_X8_isRow
set_option maxRecDepth 20000 in
theorem ggX8_cheapest_X8_layOrders : GoodIn wsX8_cheapest wsX8_layOrders := goodIn_r _ [15, 1, 2, 16, 17, 18, 19, 20, 6, 21, 22, 23, 24, 25, 26, 27, 28, 29, 30, 31, 32, 33, 34, 35, 36, 37, 38, 39, 40, 55, 56, 57, 58, 59, 60, 61, 62, 63, 64, 65, 66, 67, 68, 69, 70, 71] (by decide +kernel) (by decide +kernel)
set_option maxRecDepth 20000 in
theorem gX8_cheapest_X8_layOrders : GoodIn wsX8_cheapest (wsV RX8 174 RX8 yX8_layOrders wsX8_layOrders) := goodIn_app (goodIn_of _ (by decide +kernel)) ggX8_cheapest_X8_layOrders
set_option maxRecDepth 20000 in
theorem ggX8_cheapest_X8_bits : GoodIn wsX8_cheapest wsX8_bits := goodIn_r _ [43] (by decide +kernel) (by decide +kernel)
set_option maxRecDepth 20000 in
theorem gX8_cheapest_X8_bits : GoodIn wsX8_cheapest (va_wsS RX8 136 yX8_bits wsX8_bits) := goodIn_app (goodIn_of _ (by decide +kernel)) ggX8_cheapest_X8_bits
set_option maxRecDepth 20000 in
theorem ggX8_cheapest_X8_row : GoodIn wsX8_cheapest wsX8_row := goodIn_r _ [47, 48, 3, 4, 5, 6, 7, 8, 9, 10, 11, 49, 50, 51, 52, 53, 54, 55, 56, 57, 58, 59, 60, 61, 62, 63, 64, 65, 66, 67, 68, 69, 70, 71] (by decide +kernel) (by decide +kernel)
set_option maxRecDepth 20000 in
theorem gX8_cheapest_X8_row : GoodIn wsX8_cheapest (wsV RX8 170 RX8 yX8_row wsX8_row) := goodIn_app (goodIn_of _ (by decide +kernel)) ggX8_cheapest_X8_row
set_option maxRecDepth 20000 in
theorem ggX8_cheapest_X8_mayBe : GoodIn wsX8_cheapest wsX8_mayBe := goodIn_r _ [21, 1, 22, 23, 6, 24, 25, 26, 27, 28, 55, 56, 57, 58, 59, 60, 61, 62, 63, 64, 65, 66, 67, 68, 69, 70, 71] (by decide +kernel) (by decide +kernel)
set_option maxRecDepth 20000 in
theorem gX8_cheapest_X8_mayBe : GoodIn wsX8_cheapest (wsV RX8 153 RX8 yX8_mayBe wsX8_mayBe) := goodIn_app (goodIn_of _ (by decide +kernel)) ggX8_cheapest_X8_mayBe
set_option maxRecDepth 20000 in
theorem ggX8_cheapest_X8_price : GoodIn wsX8_cheapest wsX8_price := goodIn_r _ [32, 1, 33, 34, 35, 6, 36, 22, 23, 24, 37, 38, 39, 40, 55, 56, 57, 58, 59, 60, 61, 62, 63, 64, 65, 66, 67, 68, 69, 70, 71] (by decide +kernel) (by decide +kernel)
set_option maxRecDepth 20000 in
theorem gX8_cheapest_X8_price : GoodIn wsX8_cheapest (wsV RX8 119 RX8 yX8_price wsX8_price) := goodIn_app (goodIn_of _ (by decide +kernel)) ggX8_cheapest_X8_price
theorem dX8_cheapest_0 : decode cX8_cheapest 0 = .ok (.iload_n 1, 1) := by decide +kernel
theorem dX8_cheapest_1 : decode cX8_cheapest 1 = .ok (.invokestatic 67, 3) := by decide +kernel
theorem dX8_cheapest_4 : decode cX8_cheapest 4 = .ok (.ifCond .ne 5, 3) := by decide +kernel
theorem dX8_cheapest_7 : decode cX8_cheapest 7 = .ok (.iconst (-1), 1) := by decide +kernel
theorem dX8_cheapest_8 : decode cX8_cheapest 8 = .ok (.ireturn, 1) := by decide +kernel
theorem dX8_cheapest_9 : decode cX8_cheapest 9 = .ok (.aload_n 0, 1) := by decide +kernel
theorem dX8_cheapest_10 : decode cX8_cheapest 10 = .ok (.bipush (-9), 2) := by decide +kernel
theorem dX8_cheapest_12 : decode cX8_cheapest 12 = .ok (.invokevirtual 174, 3) := by decide +kernel
theorem dX8_cheapest_15 : decode cX8_cheapest 15 = .ok (.aload_n 0, 1) := by decide +kernel
theorem dX8_cheapest_16 : decode cX8_cheapest 16 = .ok (.getfield 22, 3) := by decide +kernel
theorem dX8_cheapest_19 : decode cX8_cheapest 19 = .ok (.iconst 2, 1) := by decide +kernel
theorem dX8_cheapest_20 : decode cX8_cheapest 20 = .ok (.iaload, 1) := by decide +kernel
theorem dX8_cheapest_21 : decode cX8_cheapest 21 = .ok (.istore_n 2, 1) := by decide +kernel
theorem dX8_cheapest_22 : decode cX8_cheapest 22 = .ok (.aload_n 0, 1) := by decide +kernel
theorem dX8_cheapest_23 : decode cX8_cheapest 23 = .ok (.getfield 42, 3) := by decide +kernel
theorem dX8_cheapest_26 : decode cX8_cheapest 26 = .ok (.iload_n 2, 1) := by decide +kernel
theorem dX8_cheapest_27 : decode cX8_cheapest 27 = .ok (.iaload, 1) := by decide +kernel
theorem dX8_cheapest_28 : decode cX8_cheapest 28 = .ok (.istore_n 3, 1) := by decide +kernel
theorem dX8_cheapest_29 : decode cX8_cheapest 29 = .ok (.aload_n 0, 1) := by decide +kernel
theorem dX8_cheapest_30 : decode cX8_cheapest 30 = .ok (.iload_n 1, 1) := by decide +kernel
theorem dX8_cheapest_31 : decode cX8_cheapest 31 = .ok (.iload_n 2, 1) := by decide +kernel
theorem dX8_cheapest_32 : decode cX8_cheapest 32 = .ok (.invokestatic 136, 3) := by decide +kernel
theorem dX8_cheapest_35 : decode cX8_cheapest 35 = .ok (.invokevirtual 170, 3) := by decide +kernel
theorem dX8_cheapest_38 : decode cX8_cheapest 38 = .ok (.istore 4, 2) := by decide +kernel
theorem dX8_cheapest_40 : decode cX8_cheapest 40 = .ok (.iconst 0, 1) := by decide +kernel
theorem dX8_cheapest_41 : decode cX8_cheapest 41 = .ok (.istore 5, 2) := by decide +kernel
theorem dX8_cheapest_43 : decode cX8_cheapest 43 = .ok (.iload 5, 2) := by decide +kernel
theorem dX8_cheapest_45 : decode cX8_cheapest 45 = .ok (.iload 4, 2) := by decide +kernel
theorem dX8_cheapest_47 : decode cX8_cheapest 47 = .ok (.if_icmp .ge 81, 3) := by decide +kernel
theorem dX8_cheapest_50 : decode cX8_cheapest 50 = .ok (.iconst 0, 1) := by decide +kernel
theorem dX8_cheapest_51 : decode cX8_cheapest 51 = .ok (.istore 6, 2) := by decide +kernel
theorem dX8_cheapest_53 : decode cX8_cheapest 53 = .ok (.aload_n 0, 1) := by decide +kernel
theorem dX8_cheapest_54 : decode cX8_cheapest 54 = .ok (.iload 6, 2) := by decide +kernel
theorem dX8_cheapest_56 : decode cX8_cheapest 56 = .ok (.iload_n 2, 1) := by decide +kernel
theorem dX8_cheapest_57 : decode cX8_cheapest 57 = .ok (.invokevirtual 153, 3) := by decide +kernel
theorem dX8_cheapest_60 : decode cX8_cheapest 60 = .ok (.ifCond .eq 33, 3) := by decide +kernel
theorem dX8_cheapest_63 : decode cX8_cheapest 63 = .ok (.aload_n 0, 1) := by decide +kernel
theorem dX8_cheapest_64 : decode cX8_cheapest 64 = .ok (.iload 6, 2) := by decide +kernel
theorem dX8_cheapest_66 : decode cX8_cheapest 66 = .ok (.iload_n 2, 1) := by decide +kernel
theorem dX8_cheapest_67 : decode cX8_cheapest 67 = .ok (.invokevirtual 119, 3) := by decide +kernel
theorem dX8_cheapest_70 : decode cX8_cheapest 70 = .ok (.aload_n 0, 1) := by decide +kernel
theorem dX8_cheapest_71 : decode cX8_cheapest 71 = .ok (.getfield 42, 3) := by decide +kernel
theorem dX8_cheapest_74 : decode cX8_cheapest 74 = .ok (.iload_n 2, 1) := by decide +kernel
theorem dX8_cheapest_75 : decode cX8_cheapest 75 = .ok (.iconst 1, 1) := by decide +kernel
theorem dX8_cheapest_76 : decode cX8_cheapest 76 = .ok (.iload 6, 2) := by decide +kernel
theorem dX8_cheapest_78 : decode cX8_cheapest 78 = .ok (.ishl, 1) := by decide +kernel
theorem dX8_cheapest_79 : decode cX8_cheapest 79 = .ok (.iconst (-1), 1) := by decide +kernel
theorem dX8_cheapest_80 : decode cX8_cheapest 80 = .ok (.ixor, 1) := by decide +kernel
theorem dX8_cheapest_81 : decode cX8_cheapest 81 = .ok (.iand, 1) := by decide +kernel
theorem dX8_cheapest_82 : decode cX8_cheapest 82 = .ok (.iaload, 1) := by decide +kernel
theorem dX8_cheapest_83 : decode cX8_cheapest 83 = .ok (.iadd, 1) := by decide +kernel
theorem dX8_cheapest_84 : decode cX8_cheapest 84 = .ok (.aload_n 0, 1) := by decide +kernel
theorem dX8_cheapest_85 : decode cX8_cheapest 85 = .ok (.getfield 42, 3) := by decide +kernel
theorem dX8_cheapest_88 : decode cX8_cheapest 88 = .ok (.iload_n 2, 1) := by decide +kernel
theorem dX8_cheapest_89 : decode cX8_cheapest 89 = .ok (.iaload, 1) := by decide +kernel
theorem dX8_cheapest_90 : decode cX8_cheapest 90 = .ok (.if_icmp .eq 9, 3) := by decide +kernel
theorem dX8_cheapest_93 : decode cX8_cheapest 93 = .ok (.iinc 6 1, 3) := by decide +kernel
theorem dX8_cheapest_96 : decode cX8_cheapest 96 = .ok (.goto (-43), 3) := by decide +kernel
theorem dX8_cheapest_99 : decode cX8_cheapest 99 = .ok (.aload_n 0, 1) := by decide +kernel
theorem dX8_cheapest_100 : decode cX8_cheapest 100 = .ok (.getfield 13, 3) := by decide +kernel
theorem dX8_cheapest_103 : decode cX8_cheapest 103 = .ok (.bipush 40, 2) := by decide +kernel
theorem dX8_cheapest_105 : decode cX8_cheapest 105 = .ok (.iload_n 1, 1) := by decide +kernel
theorem dX8_cheapest_106 : decode cX8_cheapest 106 = .ok (.imul, 1) := by decide +kernel
theorem dX8_cheapest_107 : decode cX8_cheapest 107 = .ok (.iload 5, 2) := by decide +kernel
theorem dX8_cheapest_109 : decode cX8_cheapest 109 = .ok (.iadd, 1) := by decide +kernel
theorem dX8_cheapest_110 : decode cX8_cheapest 110 = .ok (.iload 6, 2) := by decide +kernel
theorem dX8_cheapest_112 : decode cX8_cheapest 112 = .ok (.iastore, 1) := by decide +kernel
theorem dX8_cheapest_113 : decode cX8_cheapest 113 = .ok (.iload_n 2, 1) := by decide +kernel
theorem dX8_cheapest_114 : decode cX8_cheapest 114 = .ok (.iconst 1, 1) := by decide +kernel
theorem dX8_cheapest_115 : decode cX8_cheapest 115 = .ok (.iload 6, 2) := by decide +kernel
theorem dX8_cheapest_117 : decode cX8_cheapest 117 = .ok (.ishl, 1) := by decide +kernel
theorem dX8_cheapest_118 : decode cX8_cheapest 118 = .ok (.iconst (-1), 1) := by decide +kernel
theorem dX8_cheapest_119 : decode cX8_cheapest 119 = .ok (.ixor, 1) := by decide +kernel
theorem dX8_cheapest_120 : decode cX8_cheapest 120 = .ok (.iand, 1) := by decide +kernel
theorem dX8_cheapest_121 : decode cX8_cheapest 121 = .ok (.istore_n 2, 1) := by decide +kernel
theorem dX8_cheapest_122 : decode cX8_cheapest 122 = .ok (.iinc 5 1, 3) := by decide +kernel
theorem dX8_cheapest_125 : decode cX8_cheapest 125 = .ok (.goto (-82), 3) := by decide +kernel
theorem dX8_cheapest_128 : decode cX8_cheapest 128 = .ok (.iload_n 3, 1) := by decide +kernel
theorem dX8_cheapest_129 : decode cX8_cheapest 129 = .ok (.ireturn, 1) := by decide +kernel
theorem dX8_fraction_0 : decode cX8_fraction 0 = .ok (.lload_n 1, 1) := by decide +kernel
theorem dX8_fraction_1 : decode cX8_fraction 1 = .ok (.lstore 5, 2) := by decide +kernel
theorem dX8_fraction_3 : decode cX8_fraction 3 = .ok (.lload_n 3, 1) := by decide +kernel
theorem dX8_fraction_4 : decode cX8_fraction 4 = .ok (.lstore 7, 2) := by decide +kernel
theorem dX8_fraction_6 : decode cX8_fraction 6 = .ok (.lload 7, 2) := by decide +kernel
theorem dX8_fraction_8 : decode cX8_fraction 8 = .ok (.lconst 0, 1) := by decide +kernel
theorem dX8_fraction_9 : decode cX8_fraction 9 = .ok (.lcmp, 1) := by decide +kernel
theorem dX8_fraction_10 : decode cX8_fraction 10 = .ok (.ifCond .eq 21, 3) := by decide +kernel
theorem dX8_fraction_13 : decode cX8_fraction 13 = .ok (.lload 5, 2) := by decide +kernel
theorem dX8_fraction_15 : decode cX8_fraction 15 = .ok (.lload 7, 2) := by decide +kernel
theorem dX8_fraction_17 : decode cX8_fraction 17 = .ok (.lrem, 1) := by decide +kernel
theorem dX8_fraction_18 : decode cX8_fraction 18 = .ok (.lstore 9, 2) := by decide +kernel
theorem dX8_fraction_20 : decode cX8_fraction 20 = .ok (.lload 7, 2) := by decide +kernel
theorem dX8_fraction_22 : decode cX8_fraction 22 = .ok (.lstore 5, 2) := by decide +kernel
theorem dX8_fraction_24 : decode cX8_fraction 24 = .ok (.lload 9, 2) := by decide +kernel
theorem dX8_fraction_26 : decode cX8_fraction 26 = .ok (.lstore 7, 2) := by decide +kernel
theorem dX8_fraction_28 : decode cX8_fraction 28 = .ok (.goto (-22), 3) := by decide +kernel
theorem dX8_fraction_31 : decode cX8_fraction 31 = .ok (.aload_n 0, 1) := by decide +kernel
theorem dX8_fraction_32 : decode cX8_fraction 32 = .ok (.lload_n 1, 1) := by decide +kernel
theorem dX8_fraction_33 : decode cX8_fraction 33 = .ok (.lload 5, 2) := by decide +kernel
theorem dX8_fraction_35 : decode cX8_fraction 35 = .ok (.ldiv, 1) := by decide +kernel
theorem dX8_fraction_36 : decode cX8_fraction 36 = .ok (.putfield 177, 3) := by decide +kernel
theorem dX8_fraction_39 : decode cX8_fraction 39 = .ok (.aload_n 0, 1) := by decide +kernel
theorem dX8_fraction_40 : decode cX8_fraction 40 = .ok (.lload_n 3, 1) := by decide +kernel
theorem dX8_fraction_41 : decode cX8_fraction 41 = .ok (.lload 5, 2) := by decide +kernel
theorem dX8_fraction_43 : decode cX8_fraction 43 = .ok (.ldiv, 1) := by decide +kernel
theorem dX8_fraction_44 : decode cX8_fraction 44 = .ok (.putfield 32, 3) := by decide +kernel
theorem dX8_fraction_47 : decode cX8_fraction 47 = .ok (.iconst 1, 1) := by decide +kernel
theorem dX8_fraction_48 : decode cX8_fraction 48 = .ok (.ireturn, 1) := by decide +kernel
set_option maxRecDepth 20000 in
theorem ggX8_orders_X8_layOrders : GoodIn wsX8_orders wsX8_layOrders := goodIn_r _ [7, 2, 8, 9, 1, 10, 11, 12, 6, 13, 14, 15, 16, 17, 18, 19, 20, 21, 22, 23, 24, 25, 26, 27, 28, 29, 30, 31, 32, 39, 40, 41, 42, 43, 44, 45, 46, 47, 48, 49, 50, 51, 52, 53, 54, 55] (by decide +kernel) (by decide +kernel)
set_option maxRecDepth 20000 in
theorem gX8_orders_X8_layOrders : GoodIn wsX8_orders (wsV RX8 174 RX8 yX8_layOrders wsX8_layOrders) := goodIn_app (goodIn_of _ (by decide +kernel)) ggX8_orders_X8_layOrders
set_option maxRecDepth 20000 in
theorem ggX8_orders_X8_fraction : GoodIn wsX8_orders wsX8_fraction := goodIn_r _ [36, 37, 38, 39, 40, 41, 42, 43, 44, 45, 46, 47, 48, 49, 50, 51, 52, 53, 54, 55] (by decide +kernel) (by decide +kernel)
set_option maxRecDepth 20000 in
theorem gX8_orders_X8_fraction : GoodIn wsX8_orders (wsV RX8 180 RX8 yX8_fraction wsX8_fraction) := goodIn_app (goodIn_of _ (by decide +kernel)) ggX8_orders_X8_fraction
theorem dX8_orders_0 : decode cX8_orders 0 = .ok (.aload_n 0, 1) := by decide +kernel
theorem dX8_orders_1 : decode cX8_orders 1 = .ok (.bipush (-9), 2) := by decide +kernel
theorem dX8_orders_3 : decode cX8_orders 3 = .ok (.invokevirtual 174, 3) := by decide +kernel
theorem dX8_orders_6 : decode cX8_orders 6 = .ok (.aload_n 0, 1) := by decide +kernel
theorem dX8_orders_7 : decode cX8_orders 7 = .ok (.aload_n 0, 1) := by decide +kernel
theorem dX8_orders_8 : decode cX8_orders 8 = .ok (.getfield 45, 3) := by decide +kernel
theorem dX8_orders_11 : decode cX8_orders 11 = .ok (.aload_n 0, 1) := by decide +kernel
theorem dX8_orders_12 : decode cX8_orders 12 = .ok (.getfield 22, 3) := by decide +kernel
theorem dX8_orders_15 : decode cX8_orders 15 = .ok (.iconst 2, 1) := by decide +kernel
theorem dX8_orders_16 : decode cX8_orders 16 = .ok (.iaload, 1) := by decide +kernel
theorem dX8_orders_17 : decode cX8_orders 17 = .ok (.laload, 1) := by decide +kernel
theorem dX8_orders_18 : decode cX8_orders 18 = .ok (.lconst 1, 1) := by decide +kernel
theorem dX8_orders_19 : decode cX8_orders 19 = .ok (.invokevirtual 180, 3) := by decide +kernel
theorem dX8_orders_22 : decode cX8_orders 22 = .ok (.ireturn, 1) := by decide +kernel
set_option maxRecDepth 20000 in
theorem ggX8_judge_X8_isRow : GoodIn wsX8_judge wsX8_isRow := goodIn_r _ [7, 8, 9, 10, 6, 11] (by decide +kernel) (by decide +kernel)
set_option maxRecDepth 20000 in
theorem gX8_judge_X8_isRow : GoodIn wsX8_judge (va_wsS RX8 67 yX8_isRow wsX8_isRow) := goodIn_app (goodIn_of _ (by decide +kernel)) ggX8_judge_X8_isRow
set_option maxRecDepth 20000 in
theorem ggX8_judge_X8_found : GoodIn wsX8_judge wsX8_found := goodIn_r _ [15, 16, 17, 50, 51, 52, 53, 54, 55, 56, 57, 58, 59, 60, 61, 62, 63, 64, 65, 66] (by decide +kernel) (by decide +kernel)
set_option maxRecDepth 20000 in
theorem gX8_judge_X8_found : GoodIn wsX8_judge (wsV RX8 71 RX8 yX8_found wsX8_found) := goodIn_app (goodIn_of _ (by decide +kernel)) ggX8_judge_X8_found
set_option maxRecDepth 20000 in
theorem ggX8_judge_X8_isSaying : GoodIn wsX8_judge wsX8_isSaying := goodIn_r _ [21, 3, 9, 10, 6, 11, 50, 51, 52, 53, 54, 55, 56, 57, 58, 59, 60, 61, 62, 63, 64, 65, 66] (by decide +kernel) (by decide +kernel)
set_option maxRecDepth 20000 in
theorem gX8_judge_X8_isSaying : GoodIn wsX8_judge (wsV RX8 122 RX8 yX8_isSaying wsX8_isSaying) := goodIn_app (goodIn_of _ (by decide +kernel)) ggX8_judge_X8_isSaying
set_option maxRecDepth 20000 in
theorem ggX8_judge_X8_mayBe : GoodIn wsX8_judge wsX8_mayBe := goodIn_r _ [25, 3, 26, 27, 6, 28, 29, 30, 31, 32, 50, 51, 52, 53, 54, 55, 56, 57, 58, 59, 60, 61, 62, 63, 64, 65, 66] (by decide +kernel) (by decide +kernel)
set_option maxRecDepth 20000 in
theorem gX8_judge_X8_mayBe : GoodIn wsX8_judge (wsV RX8 153 RX8 yX8_mayBe wsX8_mayBe) := goodIn_app (goodIn_of _ (by decide +kernel)) ggX8_judge_X8_mayBe
set_option maxRecDepth 20000 in
theorem ggX8_judge_X8_price : GoodIn wsX8_judge wsX8_price := goodIn_r _ [36, 3, 37, 38, 39, 6, 40, 26, 27, 28, 41, 42, 43, 44, 50, 51, 52, 53, 54, 55, 56, 57, 58, 59, 60, 61, 62, 63, 64, 65, 66] (by decide +kernel) (by decide +kernel)
set_option maxRecDepth 20000 in
theorem gX8_judge_X8_price : GoodIn wsX8_judge (wsV RX8 119 RX8 yX8_price wsX8_price) := goodIn_app (goodIn_of _ (by decide +kernel)) ggX8_judge_X8_price
set_option maxRecDepth 20000 in
theorem ggX8_judge_X8_answer : GoodIn wsX8_judge wsX8_answer := goodIn_r _ [48, 49, 50, 51, 52, 53, 54, 55, 56, 57, 58, 59, 60, 61, 62, 63, 64, 65, 66] (by decide +kernel) (by decide +kernel)
set_option maxRecDepth 20000 in
theorem gX8_judge_X8_answer : GoodIn wsX8_judge (wsV RX8 162 RX8 yX8_answer wsX8_answer) := goodIn_app (goodIn_of _ (by decide +kernel)) ggX8_judge_X8_answer
theorem dX8_judge_0 : decode cX8_judge 0 = .ok (.iload_n 1, 1) := by decide +kernel
theorem dX8_judge_1 : decode cX8_judge 1 = .ok (.invokestatic 67, 3) := by decide +kernel
theorem dX8_judge_4 : decode cX8_judge 4 = .ok (.ifCond .ne 5, 3) := by decide +kernel
theorem dX8_judge_7 : decode cX8_judge 7 = .ok (.iconst (-1), 1) := by decide +kernel
theorem dX8_judge_8 : decode cX8_judge 8 = .ok (.ireturn, 1) := by decide +kernel
theorem dX8_judge_9 : decode cX8_judge 9 = .ok (.aload_n 0, 1) := by decide +kernel
theorem dX8_judge_10 : decode cX8_judge 10 = .ok (.getfield 7, 3) := by decide +kernel
theorem dX8_judge_13 : decode cX8_judge 13 = .ok (.iload_n 1, 1) := by decide +kernel
theorem dX8_judge_14 : decode cX8_judge 14 = .ok (.iaload, 1) := by decide +kernel
theorem dX8_judge_15 : decode cX8_judge 15 = .ok (.istore_n 2, 1) := by decide +kernel
theorem dX8_judge_16 : decode cX8_judge 16 = .ok (.iload_n 2, 1) := by decide +kernel
theorem dX8_judge_17 : decode cX8_judge 17 = .ok (.ifCond .ge 9, 3) := by decide +kernel
theorem dX8_judge_20 : decode cX8_judge 20 = .ok (.aload_n 0, 1) := by decide +kernel
theorem dX8_judge_21 : decode cX8_judge 21 = .ok (.iconst 1, 1) := by decide +kernel
theorem dX8_judge_22 : decode cX8_judge 22 = .ok (.invokevirtual 71, 3) := by decide +kernel
theorem dX8_judge_25 : decode cX8_judge 25 = .ok (.ireturn, 1) := by decide +kernel
theorem dX8_judge_26 : decode cX8_judge 26 = .ok (.iconst 0, 1) := by decide +kernel
theorem dX8_judge_27 : decode cX8_judge 27 = .ok (.istore_n 3, 1) := by decide +kernel
theorem dX8_judge_28 : decode cX8_judge 28 = .ok (.iload_n 3, 1) := by decide +kernel
theorem dX8_judge_29 : decode cX8_judge 29 = .ok (.iload_n 2, 1) := by decide +kernel
theorem dX8_judge_30 : decode cX8_judge 30 = .ok (.if_icmp .ge 33, 3) := by decide +kernel
theorem dX8_judge_33 : decode cX8_judge 33 = .ok (.aload_n 0, 1) := by decide +kernel
theorem dX8_judge_34 : decode cX8_judge 34 = .ok (.aload_n 0, 1) := by decide +kernel
theorem dX8_judge_35 : decode cX8_judge 35 = .ok (.getfield 13, 3) := by decide +kernel
theorem dX8_judge_38 : decode cX8_judge 38 = .ok (.bipush 40, 2) := by decide +kernel
theorem dX8_judge_40 : decode cX8_judge 40 = .ok (.iload_n 1, 1) := by decide +kernel
theorem dX8_judge_41 : decode cX8_judge 41 = .ok (.imul, 1) := by decide +kernel
theorem dX8_judge_42 : decode cX8_judge 42 = .ok (.iload_n 3, 1) := by decide +kernel
theorem dX8_judge_43 : decode cX8_judge 43 = .ok (.iadd, 1) := by decide +kernel
theorem dX8_judge_44 : decode cX8_judge 44 = .ok (.iaload, 1) := by decide +kernel
theorem dX8_judge_45 : decode cX8_judge 45 = .ok (.invokevirtual 122, 3) := by decide +kernel
theorem dX8_judge_48 : decode cX8_judge 48 = .ok (.ifCond .ne 9, 3) := by decide +kernel
theorem dX8_judge_51 : decode cX8_judge 51 = .ok (.aload_n 0, 1) := by decide +kernel
theorem dX8_judge_52 : decode cX8_judge 52 = .ok (.iconst 3, 1) := by decide +kernel
theorem dX8_judge_53 : decode cX8_judge 53 = .ok (.invokevirtual 71, 3) := by decide +kernel
theorem dX8_judge_56 : decode cX8_judge 56 = .ok (.ireturn, 1) := by decide +kernel
theorem dX8_judge_57 : decode cX8_judge 57 = .ok (.iinc 3 1, 3) := by decide +kernel
theorem dX8_judge_60 : decode cX8_judge 60 = .ok (.goto (-32), 3) := by decide +kernel
theorem dX8_judge_63 : decode cX8_judge 63 = .ok (.aload_n 0, 1) := by decide +kernel
theorem dX8_judge_64 : decode cX8_judge 64 = .ok (.getfield 22, 3) := by decide +kernel
theorem dX8_judge_67 : decode cX8_judge 67 = .ok (.iconst 2, 1) := by decide +kernel
theorem dX8_judge_68 : decode cX8_judge 68 = .ok (.iaload, 1) := by decide +kernel
theorem dX8_judge_69 : decode cX8_judge 69 = .ok (.istore_n 3, 1) := by decide +kernel
theorem dX8_judge_70 : decode cX8_judge 70 = .ok (.iconst 0, 1) := by decide +kernel
theorem dX8_judge_71 : decode cX8_judge 71 = .ok (.istore 4, 2) := by decide +kernel
theorem dX8_judge_73 : decode cX8_judge 73 = .ok (.iconst 0, 1) := by decide +kernel
theorem dX8_judge_74 : decode cX8_judge 74 = .ok (.istore 5, 2) := by decide +kernel
theorem dX8_judge_76 : decode cX8_judge 76 = .ok (.iload 5, 2) := by decide +kernel
theorem dX8_judge_78 : decode cX8_judge 78 = .ok (.iload_n 2, 1) := by decide +kernel
theorem dX8_judge_79 : decode cX8_judge 79 = .ok (.if_icmp .ge 64, 3) := by decide +kernel
theorem dX8_judge_82 : decode cX8_judge 82 = .ok (.aload_n 0, 1) := by decide +kernel
theorem dX8_judge_83 : decode cX8_judge 83 = .ok (.aload_n 0, 1) := by decide +kernel
theorem dX8_judge_84 : decode cX8_judge 84 = .ok (.getfield 13, 3) := by decide +kernel
theorem dX8_judge_87 : decode cX8_judge 87 = .ok (.bipush 40, 2) := by decide +kernel
theorem dX8_judge_89 : decode cX8_judge 89 = .ok (.iload_n 1, 1) := by decide +kernel
theorem dX8_judge_90 : decode cX8_judge 90 = .ok (.imul, 1) := by decide +kernel
theorem dX8_judge_91 : decode cX8_judge 91 = .ok (.iload 5, 2) := by decide +kernel
theorem dX8_judge_93 : decode cX8_judge 93 = .ok (.iadd, 1) := by decide +kernel
theorem dX8_judge_94 : decode cX8_judge 94 = .ok (.iaload, 1) := by decide +kernel
theorem dX8_judge_95 : decode cX8_judge 95 = .ok (.iload_n 3, 1) := by decide +kernel
theorem dX8_judge_96 : decode cX8_judge 96 = .ok (.invokevirtual 153, 3) := by decide +kernel
theorem dX8_judge_99 : decode cX8_judge 99 = .ok (.ifCond .eq 44, 3) := by decide +kernel
theorem dX8_judge_102 : decode cX8_judge 102 = .ok (.aload_n 0, 1) := by decide +kernel
theorem dX8_judge_103 : decode cX8_judge 103 = .ok (.getfield 13, 3) := by decide +kernel
theorem dX8_judge_106 : decode cX8_judge 106 = .ok (.bipush 40, 2) := by decide +kernel
theorem dX8_judge_108 : decode cX8_judge 108 = .ok (.iload_n 1, 1) := by decide +kernel
theorem dX8_judge_109 : decode cX8_judge 109 = .ok (.imul, 1) := by decide +kernel
theorem dX8_judge_110 : decode cX8_judge 110 = .ok (.iload 5, 2) := by decide +kernel
theorem dX8_judge_112 : decode cX8_judge 112 = .ok (.iadd, 1) := by decide +kernel
theorem dX8_judge_113 : decode cX8_judge 113 = .ok (.iaload, 1) := by decide +kernel
theorem dX8_judge_114 : decode cX8_judge 114 = .ok (.istore 6, 2) := by decide +kernel
theorem dX8_judge_116 : decode cX8_judge 116 = .ok (.iload 4, 2) := by decide +kernel
theorem dX8_judge_118 : decode cX8_judge 118 = .ok (.aload_n 0, 1) := by decide +kernel
theorem dX8_judge_119 : decode cX8_judge 119 = .ok (.iload 6, 2) := by decide +kernel
theorem dX8_judge_121 : decode cX8_judge 121 = .ok (.iload_n 3, 1) := by decide +kernel
theorem dX8_judge_122 : decode cX8_judge 122 = .ok (.invokevirtual 119, 3) := by decide +kernel
theorem dX8_judge_125 : decode cX8_judge 125 = .ok (.iadd, 1) := by decide +kernel
theorem dX8_judge_126 : decode cX8_judge 126 = .ok (.istore 4, 2) := by decide +kernel
theorem dX8_judge_128 : decode cX8_judge 128 = .ok (.iload_n 3, 1) := by decide +kernel
theorem dX8_judge_129 : decode cX8_judge 129 = .ok (.iconst 1, 1) := by decide +kernel
theorem dX8_judge_130 : decode cX8_judge 130 = .ok (.iload 6, 2) := by decide +kernel
theorem dX8_judge_132 : decode cX8_judge 132 = .ok (.ishl, 1) := by decide +kernel
theorem dX8_judge_133 : decode cX8_judge 133 = .ok (.iconst (-1), 1) := by decide +kernel
theorem dX8_judge_134 : decode cX8_judge 134 = .ok (.ixor, 1) := by decide +kernel
theorem dX8_judge_135 : decode cX8_judge 135 = .ok (.iand, 1) := by decide +kernel
theorem dX8_judge_136 : decode cX8_judge 136 = .ok (.istore_n 3, 1) := by decide +kernel
theorem dX8_judge_137 : decode cX8_judge 137 = .ok (.iinc 5 1, 3) := by decide +kernel
theorem dX8_judge_140 : decode cX8_judge 140 = .ok (.goto (-64), 3) := by decide +kernel
theorem dX8_judge_143 : decode cX8_judge 143 = .ok (.aload_n 0, 1) := by decide +kernel
theorem dX8_judge_144 : decode cX8_judge 144 = .ok (.iload 5, 2) := by decide +kernel
theorem dX8_judge_146 : decode cX8_judge 146 = .ok (.iload_n 2, 1) := by decide +kernel
theorem dX8_judge_147 : decode cX8_judge 147 = .ok (.if_icmp .ne 12, 3) := by decide +kernel
theorem dX8_judge_150 : decode cX8_judge 150 = .ok (.iload_n 3, 1) := by decide +kernel
theorem dX8_judge_151 : decode cX8_judge 151 = .ok (.ifCond .ne 8, 3) := by decide +kernel
theorem dX8_judge_154 : decode cX8_judge 154 = .ok (.iload 4, 2) := by decide +kernel
theorem dX8_judge_156 : decode cX8_judge 156 = .ok (.goto 5, 3) := by decide +kernel
theorem dX8_judge_159 : decode cX8_judge 159 = .ok (.bipush (-9), 2) := by decide +kernel
theorem dX8_judge_161 : decode cX8_judge 161 = .ok (.iload 5, 2) := by decide +kernel
theorem dX8_judge_163 : decode cX8_judge 163 = .ok (.invokevirtual 162, 3) := by decide +kernel
theorem dX8_judge_166 : decode cX8_judge 166 = .ok (.ireturn, 1) := by decide +kernel
set_option maxRecDepth 20000 in
theorem ggX8_last_X8_isSaying : GoodIn wsX8_last wsX8_isSaying := goodIn_r _ [7, 1, 8, 9, 6, 10, 46, 47, 48, 49, 50, 51, 52, 53, 54, 55, 56, 57, 58, 59, 60, 61, 62] (by decide +kernel) (by decide +kernel)
set_option maxRecDepth 20000 in
theorem gX8_last_X8_isSaying : GoodIn wsX8_last (wsV RX8 122 RX8 yX8_isSaying wsX8_isSaying) := goodIn_app (goodIn_of _ (by decide +kernel)) ggX8_last_X8_isSaying
set_option maxRecDepth 20000 in
theorem ggX8_last_X8_has : GoodIn wsX8_last wsX8_has := goodIn_r _ [13] (by decide +kernel) (by decide +kernel)
set_option maxRecDepth 20000 in
theorem gX8_last_X8_has : GoodIn wsX8_last (va_wsS RX8 104 yX8_has wsX8_has) := goodIn_app (goodIn_of _ (by decide +kernel)) ggX8_last_X8_has
set_option maxRecDepth 20000 in
theorem ggX8_last_X8_layOrders : GoodIn wsX8_last wsX8_layOrders := goodIn_r _ [17, 1, 18, 19, 2, 20, 21, 22, 6, 23, 11, 12, 13, 24, 25, 26, 27, 28, 29, 30, 31, 32, 33, 34, 35, 36, 37, 38, 39, 46, 47, 48, 49, 50, 51, 52, 53, 54, 55, 56, 57, 58, 59, 60, 61, 62] (by decide +kernel) (by decide +kernel)
set_option maxRecDepth 20000 in
theorem gX8_last_X8_layOrders : GoodIn wsX8_last (wsV RX8 174 RX8 yX8_layOrders wsX8_layOrders) := goodIn_app (goodIn_of _ (by decide +kernel)) ggX8_last_X8_layOrders
set_option maxRecDepth 20000 in
theorem ggX8_last_X8_fraction : GoodIn wsX8_last wsX8_fraction := goodIn_r _ [43, 44, 45, 46, 47, 48, 49, 50, 51, 52, 53, 54, 55, 56, 57, 58, 59, 60, 61, 62] (by decide +kernel) (by decide +kernel)
set_option maxRecDepth 20000 in
theorem gX8_last_X8_fraction : GoodIn wsX8_last (wsV RX8 180 RX8 yX8_fraction wsX8_fraction) := goodIn_app (goodIn_of _ (by decide +kernel)) ggX8_last_X8_fraction
theorem dX8_last_0 : decode cX8_last 0 = .ok (.aload_n 0, 1) := by decide +kernel
theorem dX8_last_1 : decode cX8_last 1 = .ok (.iload_n 1, 1) := by decide +kernel
theorem dX8_last_2 : decode cX8_last 2 = .ok (.invokevirtual 122, 3) := by decide +kernel
theorem dX8_last_5 : decode cX8_last 5 = .ok (.ifCond .ne 5, 3) := by decide +kernel
theorem dX8_last_8 : decode cX8_last 8 = .ok (.iconst (-1), 1) := by decide +kernel
theorem dX8_last_9 : decode cX8_last 9 = .ok (.ireturn, 1) := by decide +kernel
theorem dX8_last_10 : decode cX8_last 10 = .ok (.aload_n 0, 1) := by decide +kernel
theorem dX8_last_11 : decode cX8_last 11 = .ok (.getfield 22, 3) := by decide +kernel
theorem dX8_last_14 : decode cX8_last 14 = .ok (.iconst 2, 1) := by decide +kernel
theorem dX8_last_15 : decode cX8_last 15 = .ok (.iaload, 1) := by decide +kernel
theorem dX8_last_16 : decode cX8_last 16 = .ok (.iload_n 1, 1) := by decide +kernel
theorem dX8_last_17 : decode cX8_last 17 = .ok (.invokestatic 104, 3) := by decide +kernel
theorem dX8_last_20 : decode cX8_last 20 = .ok (.ifCond .ne 6, 3) := by decide +kernel
theorem dX8_last_23 : decode cX8_last 23 = .ok (.bipush (-4), 2) := by decide +kernel
theorem dX8_last_25 : decode cX8_last 25 = .ok (.ireturn, 1) := by decide +kernel
theorem dX8_last_26 : decode cX8_last 26 = .ok (.aload_n 0, 1) := by decide +kernel
theorem dX8_last_27 : decode cX8_last 27 = .ok (.bipush (-9), 2) := by decide +kernel
theorem dX8_last_29 : decode cX8_last 29 = .ok (.invokevirtual 174, 3) := by decide +kernel
theorem dX8_last_32 : decode cX8_last 32 = .ok (.aload_n 0, 1) := by decide +kernel
theorem dX8_last_33 : decode cX8_last 33 = .ok (.getfield 45, 3) := by decide +kernel
theorem dX8_last_36 : decode cX8_last 36 = .ok (.aload_n 0, 1) := by decide +kernel
theorem dX8_last_37 : decode cX8_last 37 = .ok (.getfield 22, 3) := by decide +kernel
theorem dX8_last_40 : decode cX8_last 40 = .ok (.iconst 2, 1) := by decide +kernel
theorem dX8_last_41 : decode cX8_last 41 = .ok (.iaload, 1) := by decide +kernel
theorem dX8_last_42 : decode cX8_last 42 = .ok (.laload, 1) := by decide +kernel
theorem dX8_last_43 : decode cX8_last 43 = .ok (.lstore_n 2, 1) := by decide +kernel
theorem dX8_last_44 : decode cX8_last 44 = .ok (.aload_n 0, 1) := by decide +kernel
theorem dX8_last_45 : decode cX8_last 45 = .ok (.iload_n 1, 1) := by decide +kernel
theorem dX8_last_46 : decode cX8_last 46 = .ok (.invokevirtual 174, 3) := by decide +kernel
theorem dX8_last_49 : decode cX8_last 49 = .ok (.aload_n 0, 1) := by decide +kernel
theorem dX8_last_50 : decode cX8_last 50 = .ok (.aload_n 0, 1) := by decide +kernel
theorem dX8_last_51 : decode cX8_last 51 = .ok (.getfield 45, 3) := by decide +kernel
theorem dX8_last_54 : decode cX8_last 54 = .ok (.aload_n 0, 1) := by decide +kernel
theorem dX8_last_55 : decode cX8_last 55 = .ok (.getfield 22, 3) := by decide +kernel
theorem dX8_last_58 : decode cX8_last 58 = .ok (.iconst 2, 1) := by decide +kernel
theorem dX8_last_59 : decode cX8_last 59 = .ok (.iaload, 1) := by decide +kernel
theorem dX8_last_60 : decode cX8_last 60 = .ok (.laload, 1) := by decide +kernel
theorem dX8_last_61 : decode cX8_last 61 = .ok (.lload_n 2, 1) := by decide +kernel
theorem dX8_last_62 : decode cX8_last 62 = .ok (.invokevirtual 180, 3) := by decide +kernel
theorem dX8_last_65 : decode cX8_last 65 = .ok (.ireturn, 1) := by decide +kernel
set_option maxRecDepth 20000 in
theorem ggX8_end_X8_isPerson : GoodIn wsX8_end wsX8_isPerson := goodIn_r _ [5, 6, 7, 8, 4, 9] (by decide +kernel) (by decide +kernel)
set_option maxRecDepth 20000 in
theorem gX8_end_X8_isPerson : GoodIn wsX8_end (va_wsS RX8 146 yX8_isPerson wsX8_isPerson) := goodIn_app (goodIn_of _ (by decide +kernel)) ggX8_end_X8_isPerson
set_option maxRecDepth 20000 in
theorem ggX8_end_X8_has : GoodIn wsX8_end wsX8_has := goodIn_r _ [12] (by decide +kernel) (by decide +kernel)
set_option maxRecDepth 20000 in
theorem gX8_end_X8_has : GoodIn wsX8_end (va_wsS RX8 104 yX8_has wsX8_has) := goodIn_app (goodIn_of _ (by decide +kernel)) ggX8_end_X8_has
set_option maxRecDepth 20000 in
theorem ggX8_end_X8_isBetween : GoodIn wsX8_end wsX8_isBetween := goodIn_r _ [16, 1, 25, 26, 27, 28, 29, 30, 31, 32, 33, 34, 35, 36, 37, 38, 39, 40, 41] (by decide +kernel) (by decide +kernel)
set_option maxRecDepth 20000 in
theorem gX8_end_X8_isBetween : GoodIn wsX8_end (wsV RX8 108 RX8 yX8_isBetween wsX8_isBetween) := goodIn_app (goodIn_of _ (by decide +kernel)) ggX8_end_X8_isBetween
set_option maxRecDepth 20000 in
theorem ggX8_end_X8_bits : GoodIn wsX8_end wsX8_bits := goodIn_r _ [19] (by decide +kernel) (by decide +kernel)
set_option maxRecDepth 20000 in
theorem gX8_end_X8_bits : GoodIn wsX8_end (va_wsS RX8 136 yX8_bits wsX8_bits) := goodIn_app (goodIn_of _ (by decide +kernel)) ggX8_end_X8_bits
set_option maxRecDepth 20000 in
theorem ggX8_end_X8_answer : GoodIn wsX8_end wsX8_answer := goodIn_r _ [23, 24, 25, 26, 27, 28, 29, 30, 31, 32, 33, 34, 35, 36, 37, 38, 39, 40, 41] (by decide +kernel) (by decide +kernel)
set_option maxRecDepth 20000 in
theorem gX8_end_X8_answer : GoodIn wsX8_end (wsV RX8 162 RX8 yX8_answer wsX8_answer) := goodIn_app (goodIn_of _ (by decide +kernel)) ggX8_end_X8_answer
theorem dX8_end_0 : decode cX8_end 0 = .ok (.iload_n 1, 1) := by decide +kernel
theorem dX8_end_1 : decode cX8_end 1 = .ok (.invokestatic 146, 3) := by decide +kernel
theorem dX8_end_4 : decode cX8_end 4 = .ok (.ifCond .eq 15, 3) := by decide +kernel
theorem dX8_end_7 : decode cX8_end 7 = .ok (.iload_n 2, 1) := by decide +kernel
theorem dX8_end_8 : decode cX8_end 8 = .ok (.invokestatic 146, 3) := by decide +kernel
theorem dX8_end_11 : decode cX8_end 11 = .ok (.ifCond .eq 8, 3) := by decide +kernel
theorem dX8_end_14 : decode cX8_end 14 = .ok (.iload_n 1, 1) := by decide +kernel
theorem dX8_end_15 : decode cX8_end 15 = .ok (.iload_n 2, 1) := by decide +kernel
theorem dX8_end_16 : decode cX8_end 16 = .ok (.if_icmp .ne 5, 3) := by decide +kernel
theorem dX8_end_19 : decode cX8_end 19 = .ok (.iconst (-1), 1) := by decide +kernel
theorem dX8_end_20 : decode cX8_end 20 = .ok (.ireturn, 1) := by decide +kernel
theorem dX8_end_21 : decode cX8_end 21 = .ok (.iconst 0, 1) := by decide +kernel
theorem dX8_end_22 : decode cX8_end 22 = .ok (.istore_n 3, 1) := by decide +kernel
theorem dX8_end_23 : decode cX8_end 23 = .ok (.iconst 0, 1) := by decide +kernel
theorem dX8_end_24 : decode cX8_end 24 = .ok (.istore 4, 2) := by decide +kernel
theorem dX8_end_26 : decode cX8_end 26 = .ok (.iload 4, 2) := by decide +kernel
theorem dX8_end_28 : decode cX8_end 28 = .ok (.aload_n 0, 1) := by decide +kernel
theorem dX8_end_29 : decode cX8_end 29 = .ok (.getfield 22, 3) := by decide +kernel
theorem dX8_end_32 : decode cX8_end 32 = .ok (.iconst 0, 1) := by decide +kernel
theorem dX8_end_33 : decode cX8_end 33 = .ok (.iaload, 1) := by decide +kernel
theorem dX8_end_34 : decode cX8_end 34 = .ok (.if_icmp .ge 45, 3) := by decide +kernel
theorem dX8_end_37 : decode cX8_end 37 = .ok (.iload_n 3, 1) := by decide +kernel
theorem dX8_end_38 : decode cX8_end 38 = .ok (.aload_n 0, 1) := by decide +kernel
theorem dX8_end_39 : decode cX8_end 39 = .ok (.getfield 22, 3) := by decide +kernel
theorem dX8_end_42 : decode cX8_end 42 = .ok (.iconst 2, 1) := by decide +kernel
theorem dX8_end_43 : decode cX8_end 43 = .ok (.iaload, 1) := by decide +kernel
theorem dX8_end_44 : decode cX8_end 44 = .ok (.iload 4, 2) := by decide +kernel
theorem dX8_end_46 : decode cX8_end 46 = .ok (.invokestatic 104, 3) := by decide +kernel
theorem dX8_end_49 : decode cX8_end 49 = .ok (.ifCond .eq 21, 3) := by decide +kernel
theorem dX8_end_52 : decode cX8_end 52 = .ok (.aload_n 0, 1) := by decide +kernel
theorem dX8_end_53 : decode cX8_end 53 = .ok (.iload 4, 2) := by decide +kernel
theorem dX8_end_55 : decode cX8_end 55 = .ok (.iload_n 1, 1) := by decide +kernel
theorem dX8_end_56 : decode cX8_end 56 = .ok (.iload_n 2, 1) := by decide +kernel
theorem dX8_end_57 : decode cX8_end 57 = .ok (.invokevirtual 108, 3) := by decide +kernel
theorem dX8_end_60 : decode cX8_end 60 = .ok (.ifCond .eq 10, 3) := by decide +kernel
theorem dX8_end_63 : decode cX8_end 63 = .ok (.iconst 1, 1) := by decide +kernel
theorem dX8_end_64 : decode cX8_end 64 = .ok (.iload 4, 2) := by decide +kernel
theorem dX8_end_66 : decode cX8_end 66 = .ok (.ishl, 1) := by decide +kernel
theorem dX8_end_67 : decode cX8_end 67 = .ok (.goto 4, 3) := by decide +kernel
theorem dX8_end_70 : decode cX8_end 70 = .ok (.iconst 0, 1) := by decide +kernel
theorem dX8_end_71 : decode cX8_end 71 = .ok (.ior, 1) := by decide +kernel
theorem dX8_end_72 : decode cX8_end 72 = .ok (.istore_n 3, 1) := by decide +kernel
theorem dX8_end_73 : decode cX8_end 73 = .ok (.iinc 4 1, 3) := by decide +kernel
theorem dX8_end_76 : decode cX8_end 76 = .ok (.goto (-50), 3) := by decide +kernel
theorem dX8_end_79 : decode cX8_end 79 = .ok (.iconst 0, 1) := by decide +kernel
theorem dX8_end_80 : decode cX8_end 80 = .ok (.istore 4, 2) := by decide +kernel
theorem dX8_end_82 : decode cX8_end 82 = .ok (.iload 4, 2) := by decide +kernel
theorem dX8_end_84 : decode cX8_end 84 = .ok (.aload_n 0, 1) := by decide +kernel
theorem dX8_end_85 : decode cX8_end 85 = .ok (.getfield 22, 3) := by decide +kernel
theorem dX8_end_88 : decode cX8_end 88 = .ok (.iconst 0, 1) := by decide +kernel
theorem dX8_end_89 : decode cX8_end 89 = .ok (.iaload, 1) := by decide +kernel
theorem dX8_end_90 : decode cX8_end 90 = .ok (.if_icmp .ge 87, 3) := by decide +kernel
theorem dX8_end_93 : decode cX8_end 93 = .ok (.aload_n 0, 1) := by decide +kernel
theorem dX8_end_94 : decode cX8_end 94 = .ok (.getfield 22, 3) := by decide +kernel
theorem dX8_end_97 : decode cX8_end 97 = .ok (.bipush 63, 2) := by decide +kernel
theorem dX8_end_99 : decode cX8_end 99 = .ok (.iload 4, 2) := by decide +kernel
theorem dX8_end_101 : decode cX8_end 101 = .ok (.iadd, 1) := by decide +kernel
theorem dX8_end_102 : decode cX8_end 102 = .ok (.iaload, 1) := by decide +kernel
theorem dX8_end_103 : decode cX8_end 103 = .ok (.istore 5, 2) := by decide +kernel
theorem dX8_end_105 : decode cX8_end 105 = .ok (.iload 5, 2) := by decide +kernel
theorem dX8_end_107 : decode cX8_end 107 = .ok (.bipush (-9), 2) := by decide +kernel
theorem dX8_end_109 : decode cX8_end 109 = .ok (.if_icmp .eq 29, 3) := by decide +kernel
theorem dX8_end_112 : decode cX8_end 112 = .ok (.iload_n 3, 1) := by decide +kernel
theorem dX8_end_113 : decode cX8_end 113 = .ok (.iload 5, 2) := by decide +kernel
theorem dX8_end_115 : decode cX8_end 115 = .ok (.invokestatic 104, 3) := by decide +kernel
theorem dX8_end_118 : decode cX8_end 118 = .ok (.ifCond .eq 20, 3) := by decide +kernel
theorem dX8_end_121 : decode cX8_end 121 = .ok (.aload_n 0, 1) := by decide +kernel
theorem dX8_end_122 : decode cX8_end 122 = .ok (.getfield 22, 3) := by decide +kernel
theorem dX8_end_125 : decode cX8_end 125 = .ok (.iconst 3, 1) := by decide +kernel
theorem dX8_end_126 : decode cX8_end 126 = .ok (.iload 5, 2) := by decide +kernel
theorem dX8_end_128 : decode cX8_end 128 = .ok (.iadd, 1) := by decide +kernel
theorem dX8_end_129 : decode cX8_end 129 = .ok (.iaload, 1) := by decide +kernel
theorem dX8_end_130 : decode cX8_end 130 = .ok (.iconst 4, 1) := by decide +kernel
theorem dX8_end_131 : decode cX8_end 131 = .ok (.if_icmp .eq 7, 3) := by decide +kernel
theorem dX8_end_134 : decode cX8_end 134 = .ok (.iconst 1, 1) := by decide +kernel
theorem dX8_end_135 : decode cX8_end 135 = .ok (.goto 4, 3) := by decide +kernel
theorem dX8_end_138 : decode cX8_end 138 = .ok (.iconst 0, 1) := by decide +kernel
theorem dX8_end_139 : decode cX8_end 139 = .ok (.istore 6, 2) := by decide +kernel
theorem dX8_end_141 : decode cX8_end 141 = .ok (.iload_n 3, 1) := by decide +kernel
theorem dX8_end_142 : decode cX8_end 142 = .ok (.aload_n 0, 1) := by decide +kernel
theorem dX8_end_143 : decode cX8_end 143 = .ok (.getfield 22, 3) := by decide +kernel
theorem dX8_end_146 : decode cX8_end 146 = .ok (.iconst 2, 1) := by decide +kernel
theorem dX8_end_147 : decode cX8_end 147 = .ok (.iaload, 1) := by decide +kernel
theorem dX8_end_148 : decode cX8_end 148 = .ok (.iload 4, 2) := by decide +kernel
theorem dX8_end_150 : decode cX8_end 150 = .ok (.invokestatic 104, 3) := by decide +kernel
theorem dX8_end_153 : decode cX8_end 153 = .ok (.ifCond .eq 15, 3) := by decide +kernel
theorem dX8_end_156 : decode cX8_end 156 = .ok (.iload 6, 2) := by decide +kernel
theorem dX8_end_158 : decode cX8_end 158 = .ok (.ifCond .eq 10, 3) := by decide +kernel
theorem dX8_end_161 : decode cX8_end 161 = .ok (.iconst 1, 1) := by decide +kernel
theorem dX8_end_162 : decode cX8_end 162 = .ok (.iload 4, 2) := by decide +kernel
theorem dX8_end_164 : decode cX8_end 164 = .ok (.ishl, 1) := by decide +kernel
theorem dX8_end_165 : decode cX8_end 165 = .ok (.goto 4, 3) := by decide +kernel
theorem dX8_end_168 : decode cX8_end 168 = .ok (.iconst 0, 1) := by decide +kernel
theorem dX8_end_169 : decode cX8_end 169 = .ok (.ior, 1) := by decide +kernel
theorem dX8_end_170 : decode cX8_end 170 = .ok (.istore_n 3, 1) := by decide +kernel
theorem dX8_end_171 : decode cX8_end 171 = .ok (.iinc 4 1, 3) := by decide +kernel
theorem dX8_end_174 : decode cX8_end 174 = .ok (.goto (-92), 3) := by decide +kernel
theorem dX8_end_177 : decode cX8_end 177 = .ok (.aload_n 0, 1) := by decide +kernel
theorem dX8_end_178 : decode cX8_end 178 = .ok (.iload_n 3, 1) := by decide +kernel
theorem dX8_end_179 : decode cX8_end 179 = .ok (.iload_n 3, 1) := by decide +kernel
theorem dX8_end_180 : decode cX8_end 180 = .ok (.invokestatic 136, 3) := by decide +kernel
theorem dX8_end_183 : decode cX8_end 183 = .ok (.invokevirtual 162, 3) := by decide +kernel
theorem dX8_end_186 : decode cX8_end 186 = .ok (.ireturn, 1) := by decide +kernel
set_option maxRecDepth 20000 in
theorem ggX8_layReach_X8_has : GoodIn wsX8_layReach wsX8_has := goodIn_r _ [6] (by decide +kernel) (by decide +kernel)
set_option maxRecDepth 20000 in
theorem gX8_layReach_X8_has : GoodIn wsX8_layReach (va_wsS RX8 104 yX8_has wsX8_has) := goodIn_app (goodIn_of _ (by decide +kernel)) ggX8_layReach_X8_has
theorem dX8_layReach_0 : decode cX8_layReach 0 = .ok (.iconst 0, 1) := by decide +kernel
theorem dX8_layReach_1 : decode cX8_layReach 1 = .ok (.istore_n 2, 1) := by decide +kernel
theorem dX8_layReach_2 : decode cX8_layReach 2 = .ok (.iload_n 2, 1) := by decide +kernel
theorem dX8_layReach_3 : decode cX8_layReach 3 = .ok (.bipush 6, 2) := by decide +kernel
theorem dX8_layReach_5 : decode cX8_layReach 5 = .ok (.if_icmp .ge 16, 3) := by decide +kernel
theorem dX8_layReach_8 : decode cX8_layReach 8 = .ok (.aload_n 0, 1) := by decide +kernel
theorem dX8_layReach_9 : decode cX8_layReach 9 = .ok (.getfield 49, 3) := by decide +kernel
theorem dX8_layReach_12 : decode cX8_layReach 12 = .ok (.iload_n 2, 1) := by decide +kernel
theorem dX8_layReach_13 : decode cX8_layReach 13 = .ok (.iconst 0, 1) := by decide +kernel
theorem dX8_layReach_14 : decode cX8_layReach 14 = .ok (.iastore, 1) := by decide +kernel
theorem dX8_layReach_15 : decode cX8_layReach 15 = .ok (.iinc 2 1, 3) := by decide +kernel
theorem dX8_layReach_18 : decode cX8_layReach 18 = .ok (.goto (-16), 3) := by decide +kernel
theorem dX8_layReach_21 : decode cX8_layReach 21 = .ok (.iconst 0, 1) := by decide +kernel
theorem dX8_layReach_22 : decode cX8_layReach 22 = .ok (.istore_n 2, 1) := by decide +kernel
theorem dX8_layReach_23 : decode cX8_layReach 23 = .ok (.iload_n 2, 1) := by decide +kernel
theorem dX8_layReach_24 : decode cX8_layReach 24 = .ok (.aload_n 0, 1) := by decide +kernel
theorem dX8_layReach_25 : decode cX8_layReach 25 = .ok (.getfield 22, 3) := by decide +kernel
theorem dX8_layReach_28 : decode cX8_layReach 28 = .ok (.iconst 0, 1) := by decide +kernel
theorem dX8_layReach_29 : decode cX8_layReach 29 = .ok (.iaload, 1) := by decide +kernel
theorem dX8_layReach_30 : decode cX8_layReach 30 = .ok (.if_icmp .ge 77, 3) := by decide +kernel
theorem dX8_layReach_33 : decode cX8_layReach 33 = .ok (.aload_n 0, 1) := by decide +kernel
theorem dX8_layReach_34 : decode cX8_layReach 34 = .ok (.getfield 22, 3) := by decide +kernel
theorem dX8_layReach_37 : decode cX8_layReach 37 = .ok (.bipush 15, 2) := by decide +kernel
theorem dX8_layReach_39 : decode cX8_layReach 39 = .ok (.iload_n 2, 1) := by decide +kernel
theorem dX8_layReach_40 : decode cX8_layReach 40 = .ok (.iadd, 1) := by decide +kernel
theorem dX8_layReach_41 : decode cX8_layReach 41 = .ok (.iaload, 1) := by decide +kernel
theorem dX8_layReach_42 : decode cX8_layReach 42 = .ok (.istore_n 3, 1) := by decide +kernel
theorem dX8_layReach_43 : decode cX8_layReach 43 = .ok (.aload_n 0, 1) := by decide +kernel
theorem dX8_layReach_44 : decode cX8_layReach 44 = .ok (.getfield 22, 3) := by decide +kernel
theorem dX8_layReach_47 : decode cX8_layReach 47 = .ok (.bipush 27, 2) := by decide +kernel
theorem dX8_layReach_49 : decode cX8_layReach 49 = .ok (.iload_n 2, 1) := by decide +kernel
theorem dX8_layReach_50 : decode cX8_layReach 50 = .ok (.iadd, 1) := by decide +kernel
theorem dX8_layReach_51 : decode cX8_layReach 51 = .ok (.iaload, 1) := by decide +kernel
theorem dX8_layReach_52 : decode cX8_layReach 52 = .ok (.istore 4, 2) := by decide +kernel
theorem dX8_layReach_54 : decode cX8_layReach 54 = .ok (.aload_n 0, 1) := by decide +kernel
theorem dX8_layReach_55 : decode cX8_layReach 55 = .ok (.getfield 49, 3) := by decide +kernel
theorem dX8_layReach_58 : decode cX8_layReach 58 = .ok (.iload_n 3, 1) := by decide +kernel
theorem dX8_layReach_59 : decode cX8_layReach 59 = .ok (.dup2, 1) := by decide +kernel
theorem dX8_layReach_60 : decode cX8_layReach 60 = .ok (.iaload, 1) := by decide +kernel
theorem dX8_layReach_61 : decode cX8_layReach 61 = .ok (.aload_n 0, 1) := by decide +kernel
theorem dX8_layReach_62 : decode cX8_layReach 62 = .ok (.getfield 22, 3) := by decide +kernel
theorem dX8_layReach_65 : decode cX8_layReach 65 = .ok (.iconst 2, 1) := by decide +kernel
theorem dX8_layReach_66 : decode cX8_layReach 66 = .ok (.iaload, 1) := by decide +kernel
theorem dX8_layReach_67 : decode cX8_layReach 67 = .ok (.iload_n 2, 1) := by decide +kernel
theorem dX8_layReach_68 : decode cX8_layReach 68 = .ok (.invokestatic 104, 3) := by decide +kernel
theorem dX8_layReach_71 : decode cX8_layReach 71 = .ok (.ifCond .eq 27, 3) := by decide +kernel
theorem dX8_layReach_74 : decode cX8_layReach 74 = .ok (.iload_n 1, 1) := by decide +kernel
theorem dX8_layReach_75 : decode cX8_layReach 75 = .ok (.iload_n 3, 1) := by decide +kernel
theorem dX8_layReach_76 : decode cX8_layReach 76 = .ok (.invokestatic 104, 3) := by decide +kernel
theorem dX8_layReach_79 : decode cX8_layReach 79 = .ok (.ifCond .ne 19, 3) := by decide +kernel
theorem dX8_layReach_82 : decode cX8_layReach 82 = .ok (.iload_n 1, 1) := by decide +kernel
theorem dX8_layReach_83 : decode cX8_layReach 83 = .ok (.iload 4, 2) := by decide +kernel
theorem dX8_layReach_85 : decode cX8_layReach 85 = .ok (.invokestatic 104, 3) := by decide +kernel
theorem dX8_layReach_88 : decode cX8_layReach 88 = .ok (.ifCond .ne 10, 3) := by decide +kernel
theorem dX8_layReach_91 : decode cX8_layReach 91 = .ok (.iconst 1, 1) := by decide +kernel
theorem dX8_layReach_92 : decode cX8_layReach 92 = .ok (.iload 4, 2) := by decide +kernel
theorem dX8_layReach_94 : decode cX8_layReach 94 = .ok (.ishl, 1) := by decide +kernel
theorem dX8_layReach_95 : decode cX8_layReach 95 = .ok (.goto 4, 3) := by decide +kernel
theorem dX8_layReach_98 : decode cX8_layReach 98 = .ok (.iconst 0, 1) := by decide +kernel
theorem dX8_layReach_99 : decode cX8_layReach 99 = .ok (.ior, 1) := by decide +kernel
theorem dX8_layReach_100 : decode cX8_layReach 100 = .ok (.iastore, 1) := by decide +kernel
theorem dX8_layReach_101 : decode cX8_layReach 101 = .ok (.iinc 2 1, 3) := by decide +kernel
theorem dX8_layReach_104 : decode cX8_layReach 104 = .ok (.goto (-81), 3) := by decide +kernel
theorem dX8_layReach_107 : decode cX8_layReach 107 = .ok (.iconst 0, 1) := by decide +kernel
theorem dX8_layReach_108 : decode cX8_layReach 108 = .ok (.istore_n 2, 1) := by decide +kernel
theorem dX8_layReach_109 : decode cX8_layReach 109 = .ok (.iload_n 2, 1) := by decide +kernel
theorem dX8_layReach_110 : decode cX8_layReach 110 = .ok (.bipush 6, 2) := by decide +kernel
theorem dX8_layReach_112 : decode cX8_layReach 112 = .ok (.if_icmp .ge 55, 3) := by decide +kernel
theorem dX8_layReach_115 : decode cX8_layReach 115 = .ok (.iconst 0, 1) := by decide +kernel
theorem dX8_layReach_116 : decode cX8_layReach 116 = .ok (.istore_n 3, 1) := by decide +kernel
theorem dX8_layReach_117 : decode cX8_layReach 117 = .ok (.iload_n 3, 1) := by decide +kernel
theorem dX8_layReach_118 : decode cX8_layReach 118 = .ok (.bipush 6, 2) := by decide +kernel
theorem dX8_layReach_120 : decode cX8_layReach 120 = .ok (.if_icmp .ge 41, 3) := by decide +kernel
theorem dX8_layReach_123 : decode cX8_layReach 123 = .ok (.aload_n 0, 1) := by decide +kernel
theorem dX8_layReach_124 : decode cX8_layReach 124 = .ok (.getfield 49, 3) := by decide +kernel
theorem dX8_layReach_127 : decode cX8_layReach 127 = .ok (.iload_n 3, 1) := by decide +kernel
theorem dX8_layReach_128 : decode cX8_layReach 128 = .ok (.dup2, 1) := by decide +kernel
theorem dX8_layReach_129 : decode cX8_layReach 129 = .ok (.iaload, 1) := by decide +kernel
theorem dX8_layReach_130 : decode cX8_layReach 130 = .ok (.aload_n 0, 1) := by decide +kernel
theorem dX8_layReach_131 : decode cX8_layReach 131 = .ok (.getfield 49, 3) := by decide +kernel
theorem dX8_layReach_134 : decode cX8_layReach 134 = .ok (.iload_n 3, 1) := by decide +kernel
theorem dX8_layReach_135 : decode cX8_layReach 135 = .ok (.iaload, 1) := by decide +kernel
theorem dX8_layReach_136 : decode cX8_layReach 136 = .ok (.iload_n 2, 1) := by decide +kernel
theorem dX8_layReach_137 : decode cX8_layReach 137 = .ok (.invokestatic 104, 3) := by decide +kernel
theorem dX8_layReach_140 : decode cX8_layReach 140 = .ok (.ifCond .eq 12, 3) := by decide +kernel
theorem dX8_layReach_143 : decode cX8_layReach 143 = .ok (.aload_n 0, 1) := by decide +kernel
theorem dX8_layReach_144 : decode cX8_layReach 144 = .ok (.getfield 49, 3) := by decide +kernel
theorem dX8_layReach_147 : decode cX8_layReach 147 = .ok (.iload_n 2, 1) := by decide +kernel
theorem dX8_layReach_148 : decode cX8_layReach 148 = .ok (.iaload, 1) := by decide +kernel
theorem dX8_layReach_149 : decode cX8_layReach 149 = .ok (.goto 4, 3) := by decide +kernel
theorem dX8_layReach_152 : decode cX8_layReach 152 = .ok (.iconst 0, 1) := by decide +kernel
theorem dX8_layReach_153 : decode cX8_layReach 153 = .ok (.ior, 1) := by decide +kernel
theorem dX8_layReach_154 : decode cX8_layReach 154 = .ok (.iastore, 1) := by decide +kernel
theorem dX8_layReach_155 : decode cX8_layReach 155 = .ok (.iinc 3 1, 3) := by decide +kernel
theorem dX8_layReach_158 : decode cX8_layReach 158 = .ok (.goto (-41), 3) := by decide +kernel
theorem dX8_layReach_161 : decode cX8_layReach 161 = .ok (.iinc 2 1, 3) := by decide +kernel
theorem dX8_layReach_164 : decode cX8_layReach 164 = .ok (.goto (-55), 3) := by decide +kernel
theorem dX8_layReach_167 : decode cX8_layReach 167 = .ok (.return_, 1) := by decide +kernel
set_option maxRecDepth 20000 in
theorem ggX8_ringed_X8_layReach : GoodIn wsX8_ringed wsX8_layReach := goodIn_r _ [6, 1, 7, 8, 9, 5, 10, 11, 12, 13, 14, 15, 16, 17, 18, 19, 20, 21, 22, 23, 24, 25, 26, 27] (by decide +kernel) (by decide +kernel)
set_option maxRecDepth 20000 in
theorem gX8_ringed_X8_layReach : GoodIn wsX8_ringed (wsV RX8 184 RX8 yX8_layReach wsX8_layReach) := goodIn_app (goodIn_of _ (by decide +kernel)) ggX8_ringed_X8_layReach
set_option maxRecDepth 20000 in
theorem ggX8_ringed_X8_has : GoodIn wsX8_ringed wsX8_has := goodIn_r _ [10] (by decide +kernel) (by decide +kernel)
set_option maxRecDepth 20000 in
theorem gX8_ringed_X8_has : GoodIn wsX8_ringed (va_wsS RX8 104 yX8_has wsX8_has) := goodIn_app (goodIn_of _ (by decide +kernel)) ggX8_ringed_X8_has
theorem dX8_ringed_0 : decode cX8_ringed 0 = .ok (.aload_n 0, 1) := by decide +kernel
theorem dX8_ringed_1 : decode cX8_ringed 1 = .ok (.iload_n 1, 1) := by decide +kernel
theorem dX8_ringed_2 : decode cX8_ringed 2 = .ok (.invokevirtual 184, 3) := by decide +kernel
theorem dX8_ringed_5 : decode cX8_ringed 5 = .ok (.iconst 0, 1) := by decide +kernel
theorem dX8_ringed_6 : decode cX8_ringed 6 = .ok (.istore_n 2, 1) := by decide +kernel
theorem dX8_ringed_7 : decode cX8_ringed 7 = .ok (.iconst 0, 1) := by decide +kernel
theorem dX8_ringed_8 : decode cX8_ringed 8 = .ok (.istore_n 3, 1) := by decide +kernel
theorem dX8_ringed_9 : decode cX8_ringed 9 = .ok (.iload_n 3, 1) := by decide +kernel
theorem dX8_ringed_10 : decode cX8_ringed 10 = .ok (.bipush 6, 2) := by decide +kernel
theorem dX8_ringed_12 : decode cX8_ringed 12 = .ok (.if_icmp .ge 32, 3) := by decide +kernel
theorem dX8_ringed_15 : decode cX8_ringed 15 = .ok (.iload_n 2, 1) := by decide +kernel
theorem dX8_ringed_16 : decode cX8_ringed 16 = .ok (.aload_n 0, 1) := by decide +kernel
theorem dX8_ringed_17 : decode cX8_ringed 17 = .ok (.getfield 49, 3) := by decide +kernel
theorem dX8_ringed_20 : decode cX8_ringed 20 = .ok (.iload_n 3, 1) := by decide +kernel
theorem dX8_ringed_21 : decode cX8_ringed 21 = .ok (.iaload, 1) := by decide +kernel
theorem dX8_ringed_22 : decode cX8_ringed 22 = .ok (.iload_n 3, 1) := by decide +kernel
theorem dX8_ringed_23 : decode cX8_ringed 23 = .ok (.invokestatic 104, 3) := by decide +kernel
theorem dX8_ringed_26 : decode cX8_ringed 26 = .ok (.ifCond .eq 9, 3) := by decide +kernel
theorem dX8_ringed_29 : decode cX8_ringed 29 = .ok (.iconst 1, 1) := by decide +kernel
theorem dX8_ringed_30 : decode cX8_ringed 30 = .ok (.iload_n 3, 1) := by decide +kernel
theorem dX8_ringed_31 : decode cX8_ringed 31 = .ok (.ishl, 1) := by decide +kernel
theorem dX8_ringed_32 : decode cX8_ringed 32 = .ok (.goto 4, 3) := by decide +kernel
theorem dX8_ringed_35 : decode cX8_ringed 35 = .ok (.iconst 0, 1) := by decide +kernel
theorem dX8_ringed_36 : decode cX8_ringed 36 = .ok (.ior, 1) := by decide +kernel
theorem dX8_ringed_37 : decode cX8_ringed 37 = .ok (.istore_n 2, 1) := by decide +kernel
theorem dX8_ringed_38 : decode cX8_ringed 38 = .ok (.iinc 3 1, 3) := by decide +kernel
theorem dX8_ringed_41 : decode cX8_ringed 41 = .ok (.goto (-32), 3) := by decide +kernel
theorem dX8_ringed_44 : decode cX8_ringed 44 = .ok (.iload_n 2, 1) := by decide +kernel
theorem dX8_ringed_45 : decode cX8_ringed 45 = .ok (.ireturn, 1) := by decide +kernel
set_option maxRecDepth 20000 in
theorem ggX8_rings_X8_has : GoodIn wsX8_rings wsX8_has := goodIn_r _ [5] (by decide +kernel) (by decide +kernel)
set_option maxRecDepth 20000 in
theorem gX8_rings_X8_has : GoodIn wsX8_rings (va_wsS RX8 104 yX8_has wsX8_has) := goodIn_app (goodIn_of _ (by decide +kernel)) ggX8_rings_X8_has
set_option maxRecDepth 20000 in
theorem ggX8_rings_X8_ringed : GoodIn wsX8_rings wsX8_ringed := goodIn_r _ [9, 10, 11, 12, 13, 4, 14, 1, 2, 3, 5, 23, 24, 25, 26, 27, 28, 29, 30, 31, 32, 33, 34, 35, 36, 37, 38, 39] (by decide +kernel) (by decide +kernel)
set_option maxRecDepth 20000 in
theorem gX8_rings_X8_ringed : GoodIn wsX8_rings (wsV RX8 187 RX8 yX8_ringed wsX8_ringed) := goodIn_app (goodIn_of _ (by decide +kernel)) ggX8_rings_X8_ringed
set_option maxRecDepth 20000 in
theorem ggX8_rings_X8_bits : GoodIn wsX8_rings wsX8_bits := goodIn_r _ [17] (by decide +kernel) (by decide +kernel)
set_option maxRecDepth 20000 in
theorem gX8_rings_X8_bits : GoodIn wsX8_rings (va_wsS RX8 136 yX8_bits wsX8_bits) := goodIn_app (goodIn_of _ (by decide +kernel)) ggX8_rings_X8_bits
set_option maxRecDepth 20000 in
theorem ggX8_rings_X8_answer : GoodIn wsX8_rings wsX8_answer := goodIn_r _ [21, 22, 23, 24, 25, 26, 27, 28, 29, 30, 31, 32, 33, 34, 35, 36, 37, 38, 39] (by decide +kernel) (by decide +kernel)
set_option maxRecDepth 20000 in
theorem gX8_rings_X8_answer : GoodIn wsX8_rings (wsV RX8 162 RX8 yX8_answer wsX8_answer) := goodIn_app (goodIn_of _ (by decide +kernel)) ggX8_rings_X8_answer
theorem dX8_rings_0 : decode cX8_rings 0 = .ok (.iconst 0, 1) := by decide +kernel
theorem dX8_rings_1 : decode cX8_rings 1 = .ok (.istore_n 1, 1) := by decide +kernel
theorem dX8_rings_2 : decode cX8_rings 2 = .ok (.iconst 0, 1) := by decide +kernel
theorem dX8_rings_3 : decode cX8_rings 3 = .ok (.istore_n 2, 1) := by decide +kernel
theorem dX8_rings_4 : decode cX8_rings 4 = .ok (.iload_n 2, 1) := by decide +kernel
theorem dX8_rings_5 : decode cX8_rings 5 = .ok (.aload_n 0, 1) := by decide +kernel
theorem dX8_rings_6 : decode cX8_rings 6 = .ok (.getfield 22, 3) := by decide +kernel
theorem dX8_rings_9 : decode cX8_rings 9 = .ok (.iconst 0, 1) := by decide +kernel
theorem dX8_rings_10 : decode cX8_rings 10 = .ok (.iaload, 1) := by decide +kernel
theorem dX8_rings_11 : decode cX8_rings 11 = .ok (.if_icmp .ge 52, 3) := by decide +kernel
theorem dX8_rings_14 : decode cX8_rings 14 = .ok (.iload_n 1, 1) := by decide +kernel
theorem dX8_rings_15 : decode cX8_rings 15 = .ok (.aload_n 0, 1) := by decide +kernel
theorem dX8_rings_16 : decode cX8_rings 16 = .ok (.getfield 22, 3) := by decide +kernel
theorem dX8_rings_19 : decode cX8_rings 19 = .ok (.iconst 2, 1) := by decide +kernel
theorem dX8_rings_20 : decode cX8_rings 20 = .ok (.iaload, 1) := by decide +kernel
theorem dX8_rings_21 : decode cX8_rings 21 = .ok (.iload_n 2, 1) := by decide +kernel
theorem dX8_rings_22 : decode cX8_rings 22 = .ok (.invokestatic 104, 3) := by decide +kernel
theorem dX8_rings_25 : decode cX8_rings 25 = .ok (.ifCond .eq 29, 3) := by decide +kernel
theorem dX8_rings_28 : decode cX8_rings 28 = .ok (.iconst 1, 1) := by decide +kernel
theorem dX8_rings_29 : decode cX8_rings 29 = .ok (.aload_n 0, 1) := by decide +kernel
theorem dX8_rings_30 : decode cX8_rings 30 = .ok (.getfield 22, 3) := by decide +kernel
theorem dX8_rings_33 : decode cX8_rings 33 = .ok (.bipush 15, 2) := by decide +kernel
theorem dX8_rings_35 : decode cX8_rings 35 = .ok (.iload_n 2, 1) := by decide +kernel
theorem dX8_rings_36 : decode cX8_rings 36 = .ok (.iadd, 1) := by decide +kernel
theorem dX8_rings_37 : decode cX8_rings 37 = .ok (.iaload, 1) := by decide +kernel
theorem dX8_rings_38 : decode cX8_rings 38 = .ok (.ishl, 1) := by decide +kernel
theorem dX8_rings_39 : decode cX8_rings 39 = .ok (.iconst 1, 1) := by decide +kernel
theorem dX8_rings_40 : decode cX8_rings 40 = .ok (.aload_n 0, 1) := by decide +kernel
theorem dX8_rings_41 : decode cX8_rings 41 = .ok (.getfield 22, 3) := by decide +kernel
theorem dX8_rings_44 : decode cX8_rings 44 = .ok (.bipush 27, 2) := by decide +kernel
theorem dX8_rings_46 : decode cX8_rings 46 = .ok (.iload_n 2, 1) := by decide +kernel
theorem dX8_rings_47 : decode cX8_rings 47 = .ok (.iadd, 1) := by decide +kernel
theorem dX8_rings_48 : decode cX8_rings 48 = .ok (.iaload, 1) := by decide +kernel
theorem dX8_rings_49 : decode cX8_rings 49 = .ok (.ishl, 1) := by decide +kernel
theorem dX8_rings_50 : decode cX8_rings 50 = .ok (.ior, 1) := by decide +kernel
theorem dX8_rings_51 : decode cX8_rings 51 = .ok (.goto 4, 3) := by decide +kernel
theorem dX8_rings_54 : decode cX8_rings 54 = .ok (.iconst 0, 1) := by decide +kernel
theorem dX8_rings_55 : decode cX8_rings 55 = .ok (.ior, 1) := by decide +kernel
theorem dX8_rings_56 : decode cX8_rings 56 = .ok (.istore_n 1, 1) := by decide +kernel
theorem dX8_rings_57 : decode cX8_rings 57 = .ok (.iinc 2 1, 3) := by decide +kernel
theorem dX8_rings_60 : decode cX8_rings 60 = .ok (.goto (-56), 3) := by decide +kernel
theorem dX8_rings_63 : decode cX8_rings 63 = .ok (.aload_n 0, 1) := by decide +kernel
theorem dX8_rings_64 : decode cX8_rings 64 = .ok (.aload_n 0, 1) := by decide +kernel
theorem dX8_rings_65 : decode cX8_rings 65 = .ok (.iconst 0, 1) := by decide +kernel
theorem dX8_rings_66 : decode cX8_rings 66 = .ok (.invokevirtual 187, 3) := by decide +kernel
theorem dX8_rings_69 : decode cX8_rings 69 = .ok (.iload_n 1, 1) := by decide +kernel
theorem dX8_rings_70 : decode cX8_rings 70 = .ok (.invokestatic 136, 3) := by decide +kernel
theorem dX8_rings_73 : decode cX8_rings 73 = .ok (.invokevirtual 162, 3) := by decide +kernel
theorem dX8_rings_76 : decode cX8_rings 76 = .ok (.ireturn, 1) := by decide +kernel
set_option maxRecDepth 20000 in
theorem ggX8_away_X8_bits : GoodIn wsX8_away wsX8_bits := goodIn_r _ [4] (by decide +kernel) (by decide +kernel)
set_option maxRecDepth 20000 in
theorem gX8_away_X8_bits : GoodIn wsX8_away (va_wsS RX8 136 yX8_bits wsX8_bits) := goodIn_app (goodIn_of _ (by decide +kernel)) ggX8_away_X8_bits
set_option maxRecDepth 20000 in
theorem ggX8_away_X8_ringed : GoodIn wsX8_away wsX8_ringed := goodIn_r _ [8, 9, 10, 11, 12, 3, 13, 14, 15, 16, 17, 23, 24, 25, 26, 27, 28, 29, 30, 31, 32, 33, 34, 35, 36, 37, 38, 39] (by decide +kernel) (by decide +kernel)
set_option maxRecDepth 20000 in
theorem gX8_away_X8_ringed : GoodIn wsX8_away (wsV RX8 187 RX8 yX8_ringed wsX8_ringed) := goodIn_app (goodIn_of _ (by decide +kernel)) ggX8_away_X8_ringed
set_option maxRecDepth 20000 in
theorem ggX8_away_X8_answer : GoodIn wsX8_away wsX8_answer := goodIn_r _ [21, 22, 23, 24, 25, 26, 27, 28, 29, 30, 31, 32, 33, 34, 35, 36, 37, 38, 39] (by decide +kernel) (by decide +kernel)
set_option maxRecDepth 20000 in
theorem gX8_away_X8_answer : GoodIn wsX8_away (wsV RX8 162 RX8 yX8_answer wsX8_answer) := goodIn_app (goodIn_of _ (by decide +kernel)) ggX8_away_X8_answer
theorem dX8_away_0 : decode cX8_away 0 = .ok (.bipush 63, 2) := by decide +kernel
theorem dX8_away_2 : decode cX8_away 2 = .ok (.istore_n 1, 1) := by decide +kernel
theorem dX8_away_3 : decode cX8_away 3 = .ok (.iconst 0, 1) := by decide +kernel
theorem dX8_away_4 : decode cX8_away 4 = .ok (.istore_n 2, 1) := by decide +kernel
theorem dX8_away_5 : decode cX8_away 5 = .ok (.iload_n 2, 1) := by decide +kernel
theorem dX8_away_6 : decode cX8_away 6 = .ok (.bipush 64, 2) := by decide +kernel
theorem dX8_away_8 : decode cX8_away 8 = .ok (.if_icmp .ge 34, 3) := by decide +kernel
theorem dX8_away_11 : decode cX8_away 11 = .ok (.iload_n 2, 1) := by decide +kernel
theorem dX8_away_12 : decode cX8_away 12 = .ok (.invokestatic 136, 3) := by decide +kernel
theorem dX8_away_15 : decode cX8_away 15 = .ok (.iload_n 1, 1) := by decide +kernel
theorem dX8_away_16 : decode cX8_away 16 = .ok (.invokestatic 136, 3) := by decide +kernel
theorem dX8_away_19 : decode cX8_away 19 = .ok (.if_icmp .ge 15, 3) := by decide +kernel
theorem dX8_away_22 : decode cX8_away 22 = .ok (.aload_n 0, 1) := by decide +kernel
theorem dX8_away_23 : decode cX8_away 23 = .ok (.iload_n 2, 1) := by decide +kernel
theorem dX8_away_24 : decode cX8_away 24 = .ok (.invokevirtual 187, 3) := by decide +kernel
theorem dX8_away_27 : decode cX8_away 27 = .ok (.ifCond .ne 7, 3) := by decide +kernel
theorem dX8_away_30 : decode cX8_away 30 = .ok (.iload_n 2, 1) := by decide +kernel
theorem dX8_away_31 : decode cX8_away 31 = .ok (.goto 4, 3) := by decide +kernel
theorem dX8_away_34 : decode cX8_away 34 = .ok (.iload_n 1, 1) := by decide +kernel
theorem dX8_away_35 : decode cX8_away 35 = .ok (.istore_n 1, 1) := by decide +kernel
theorem dX8_away_36 : decode cX8_away 36 = .ok (.iinc 2 1, 3) := by decide +kernel
theorem dX8_away_39 : decode cX8_away 39 = .ok (.goto (-34), 3) := by decide +kernel
theorem dX8_away_42 : decode cX8_away 42 = .ok (.aload_n 0, 1) := by decide +kernel
theorem dX8_away_43 : decode cX8_away 43 = .ok (.iload_n 1, 1) := by decide +kernel
theorem dX8_away_44 : decode cX8_away 44 = .ok (.invokestatic 136, 3) := by decide +kernel
theorem dX8_away_47 : decode cX8_away 47 = .ok (.iload_n 1, 1) := by decide +kernel
theorem dX8_away_48 : decode cX8_away 48 = .ok (.invokevirtual 162, 3) := by decide +kernel
theorem dX8_away_51 : decode cX8_away 51 = .ok (.ireturn, 1) := by decide +kernel
set_option maxRecDepth 20000 in
theorem ggX8_whose_X8_isSaying : GoodIn wsX8_whose wsX8_isSaying := goodIn_r _ [6, 1, 7, 8, 5, 9, 20, 21, 22, 23, 24, 25, 26, 27, 28, 29, 30, 31, 32, 33, 34, 35, 36] (by decide +kernel) (by decide +kernel)
set_option maxRecDepth 20000 in
theorem gX8_whose_X8_isSaying : GoodIn wsX8_whose (wsV RX8 122 RX8 yX8_isSaying wsX8_isSaying) := goodIn_app (goodIn_of _ (by decide +kernel)) ggX8_whose_X8_isSaying
set_option maxRecDepth 20000 in
theorem ggX8_whose_X8_handsOf : GoodIn wsX8_whose wsX8_handsOf := goodIn_r _ [13, 1, 20, 21, 22, 23, 24, 25, 26, 27, 28, 29, 30, 31, 32, 33, 34, 35, 36] (by decide +kernel) (by decide +kernel)
set_option maxRecDepth 20000 in
theorem gX8_whose_X8_handsOf : GoodIn wsX8_whose (wsV RX8 133 RX8 yX8_handsOf wsX8_handsOf) := goodIn_app (goodIn_of _ (by decide +kernel)) ggX8_whose_X8_handsOf
set_option maxRecDepth 20000 in
theorem ggX8_whose_X8_found : GoodIn wsX8_whose wsX8_found := goodIn_r _ [17, 18, 19, 20, 21, 22, 23, 24, 25, 26, 27, 28, 29, 30, 31, 32, 33, 34, 35, 36] (by decide +kernel) (by decide +kernel)
set_option maxRecDepth 20000 in
theorem gX8_whose_X8_found : GoodIn wsX8_whose (wsV RX8 71 RX8 yX8_found wsX8_found) := goodIn_app (goodIn_of _ (by decide +kernel)) ggX8_whose_X8_found
theorem dX8_whose_0 : decode cX8_whose 0 = .ok (.aload_n 0, 1) := by decide +kernel
theorem dX8_whose_1 : decode cX8_whose 1 = .ok (.iload_n 1, 1) := by decide +kernel
theorem dX8_whose_2 : decode cX8_whose 2 = .ok (.invokevirtual 122, 3) := by decide +kernel
theorem dX8_whose_5 : decode cX8_whose 5 = .ok (.ifCond .ne 5, 3) := by decide +kernel
theorem dX8_whose_8 : decode cX8_whose 8 = .ok (.iconst (-1), 1) := by decide +kernel
theorem dX8_whose_9 : decode cX8_whose 9 = .ok (.ireturn, 1) := by decide +kernel
theorem dX8_whose_10 : decode cX8_whose 10 = .ok (.aload_n 0, 1) := by decide +kernel
theorem dX8_whose_11 : decode cX8_whose 11 = .ok (.getfield 22, 3) := by decide +kernel
theorem dX8_whose_14 : decode cX8_whose 14 = .ok (.iconst 3, 1) := by decide +kernel
theorem dX8_whose_15 : decode cX8_whose 15 = .ok (.iload_n 1, 1) := by decide +kernel
theorem dX8_whose_16 : decode cX8_whose 16 = .ok (.iadd, 1) := by decide +kernel
theorem dX8_whose_17 : decode cX8_whose 17 = .ok (.iaload, 1) := by decide +kernel
theorem dX8_whose_18 : decode cX8_whose 18 = .ok (.iconst 2, 1) := by decide +kernel
theorem dX8_whose_19 : decode cX8_whose 19 = .ok (.if_icmp .ne 11, 3) := by decide +kernel
theorem dX8_whose_22 : decode cX8_whose 22 = .ok (.aload_n 0, 1) := by decide +kernel
theorem dX8_whose_23 : decode cX8_whose 23 = .ok (.iload_n 1, 1) := by decide +kernel
theorem dX8_whose_24 : decode cX8_whose 24 = .ok (.invokevirtual 133, 3) := by decide +kernel
theorem dX8_whose_27 : decode cX8_whose 27 = .ok (.goto 8, 3) := by decide +kernel
theorem dX8_whose_30 : decode cX8_whose 30 = .ok (.aload_n 0, 1) := by decide +kernel
theorem dX8_whose_31 : decode cX8_whose 31 = .ok (.iconst 3, 1) := by decide +kernel
theorem dX8_whose_32 : decode cX8_whose 32 = .ok (.invokevirtual 71, 3) := by decide +kernel
theorem dX8_whose_35 : decode cX8_whose 35 = .ok (.ireturn, 1) := by decide +kernel
set_option maxRecDepth 20000 in
theorem ggX8_firsts_X8_has : GoodIn wsX8_firsts wsX8_has := goodIn_r _ [5] (by decide +kernel) (by decide +kernel)
set_option maxRecDepth 20000 in
theorem gX8_firsts_X8_has : GoodIn wsX8_firsts (va_wsS RX8 104 yX8_has wsX8_has) := goodIn_app (goodIn_of _ (by decide +kernel)) ggX8_firsts_X8_has
theorem dX8_firsts_0 : decode cX8_firsts 0 = .ok (.iconst 0, 1) := by decide +kernel
theorem dX8_firsts_1 : decode cX8_firsts 1 = .ok (.istore_n 3, 1) := by decide +kernel
theorem dX8_firsts_2 : decode cX8_firsts 2 = .ok (.iconst 0, 1) := by decide +kernel
theorem dX8_firsts_3 : decode cX8_firsts 3 = .ok (.istore 4, 2) := by decide +kernel
theorem dX8_firsts_5 : decode cX8_firsts 5 = .ok (.iload 4, 2) := by decide +kernel
theorem dX8_firsts_7 : decode cX8_firsts 7 = .ok (.aload_n 0, 1) := by decide +kernel
theorem dX8_firsts_8 : decode cX8_firsts 8 = .ok (.getfield 22, 3) := by decide +kernel
theorem dX8_firsts_11 : decode cX8_firsts 11 = .ok (.iconst 0, 1) := by decide +kernel
theorem dX8_firsts_12 : decode cX8_firsts 12 = .ok (.iaload, 1) := by decide +kernel
theorem dX8_firsts_13 : decode cX8_firsts 13 = .ok (.if_icmp .ge 74, 3) := by decide +kernel
theorem dX8_firsts_16 : decode cX8_firsts 16 = .ok (.iload_n 3, 1) := by decide +kernel
theorem dX8_firsts_17 : decode cX8_firsts 17 = .ok (.aload_n 0, 1) := by decide +kernel
theorem dX8_firsts_18 : decode cX8_firsts 18 = .ok (.getfield 22, 3) := by decide +kernel
theorem dX8_firsts_21 : decode cX8_firsts 21 = .ok (.bipush 63, 2) := by decide +kernel
theorem dX8_firsts_23 : decode cX8_firsts 23 = .ok (.iload 4, 2) := by decide +kernel
theorem dX8_firsts_25 : decode cX8_firsts 25 = .ok (.iadd, 1) := by decide +kernel
theorem dX8_firsts_26 : decode cX8_firsts 26 = .ok (.iaload, 1) := by decide +kernel
theorem dX8_firsts_27 : decode cX8_firsts 27 = .ok (.bipush (-9), 2) := by decide +kernel
theorem dX8_firsts_29 : decode cX8_firsts 29 = .ok (.if_icmp .ne 49, 3) := by decide +kernel
theorem dX8_firsts_32 : decode cX8_firsts 32 = .ok (.aload_n 0, 1) := by decide +kernel
theorem dX8_firsts_33 : decode cX8_firsts 33 = .ok (.getfield 22, 3) := by decide +kernel
theorem dX8_firsts_36 : decode cX8_firsts 36 = .ok (.iconst 2, 1) := by decide +kernel
theorem dX8_firsts_37 : decode cX8_firsts 37 = .ok (.iaload, 1) := by decide +kernel
theorem dX8_firsts_38 : decode cX8_firsts 38 = .ok (.iload 4, 2) := by decide +kernel
theorem dX8_firsts_40 : decode cX8_firsts 40 = .ok (.invokestatic 104, 3) := by decide +kernel
theorem dX8_firsts_43 : decode cX8_firsts 43 = .ok (.ifCond .eq 35, 3) := by decide +kernel
theorem dX8_firsts_46 : decode cX8_firsts 46 = .ok (.aload_n 0, 1) := by decide +kernel
theorem dX8_firsts_47 : decode cX8_firsts 47 = .ok (.getfield 22, 3) := by decide +kernel
theorem dX8_firsts_50 : decode cX8_firsts 50 = .ok (.bipush 15, 2) := by decide +kernel
theorem dX8_firsts_52 : decode cX8_firsts 52 = .ok (.iload 4, 2) := by decide +kernel
theorem dX8_firsts_54 : decode cX8_firsts 54 = .ok (.iadd, 1) := by decide +kernel
theorem dX8_firsts_55 : decode cX8_firsts 55 = .ok (.iaload, 1) := by decide +kernel
theorem dX8_firsts_56 : decode cX8_firsts 56 = .ok (.iload_n 1, 1) := by decide +kernel
theorem dX8_firsts_57 : decode cX8_firsts 57 = .ok (.if_icmp .ne 21, 3) := by decide +kernel
theorem dX8_firsts_60 : decode cX8_firsts 60 = .ok (.aload_n 0, 1) := by decide +kernel
theorem dX8_firsts_61 : decode cX8_firsts 61 = .ok (.getfield 22, 3) := by decide +kernel
theorem dX8_firsts_64 : decode cX8_firsts 64 = .ok (.bipush 27, 2) := by decide +kernel
theorem dX8_firsts_66 : decode cX8_firsts 66 = .ok (.iload 4, 2) := by decide +kernel
theorem dX8_firsts_68 : decode cX8_firsts 68 = .ok (.iadd, 1) := by decide +kernel
theorem dX8_firsts_69 : decode cX8_firsts 69 = .ok (.iaload, 1) := by decide +kernel
theorem dX8_firsts_70 : decode cX8_firsts 70 = .ok (.iload_n 2, 1) := by decide +kernel
theorem dX8_firsts_71 : decode cX8_firsts 71 = .ok (.if_icmp .ne 7, 3) := by decide +kernel
theorem dX8_firsts_74 : decode cX8_firsts 74 = .ok (.iconst 1, 1) := by decide +kernel
theorem dX8_firsts_75 : decode cX8_firsts 75 = .ok (.goto 4, 3) := by decide +kernel
theorem dX8_firsts_78 : decode cX8_firsts 78 = .ok (.iconst 0, 1) := by decide +kernel
theorem dX8_firsts_79 : decode cX8_firsts 79 = .ok (.iadd, 1) := by decide +kernel
theorem dX8_firsts_80 : decode cX8_firsts 80 = .ok (.istore_n 3, 1) := by decide +kernel
theorem dX8_firsts_81 : decode cX8_firsts 81 = .ok (.iinc 4 1, 3) := by decide +kernel
theorem dX8_firsts_84 : decode cX8_firsts 84 = .ok (.goto (-79), 3) := by decide +kernel
theorem dX8_firsts_87 : decode cX8_firsts 87 = .ok (.iload_n 3, 1) := by decide +kernel
theorem dX8_firsts_88 : decode cX8_firsts 88 = .ok (.ireturn, 1) := by decide +kernel
set_option maxRecDepth 20000 in
theorem ggX8_wash_X8_firsts : GoodIn wsX8_wash wsX8_firsts := goodIn_r _ [5, 6, 7, 8, 4, 9, 10, 11, 12, 13, 14, 15, 16, 17, 18, 19, 20, 21, 22, 23, 24, 25, 26] (by decide +kernel) (by decide +kernel)
set_option maxRecDepth 20000 in
theorem gX8_wash_X8_firsts : GoodIn wsX8_wash (wsV RX8 190 RX8 yX8_firsts wsX8_firsts) := goodIn_app (goodIn_of _ (by decide +kernel)) ggX8_wash_X8_firsts
theorem dX8_wash_0 : decode cX8_wash 0 = .ok (.iconst 0, 1) := by decide +kernel
theorem dX8_wash_1 : decode cX8_wash 1 = .ok (.istore_n 1, 1) := by decide +kernel
theorem dX8_wash_2 : decode cX8_wash 2 = .ok (.iconst 0, 1) := by decide +kernel
theorem dX8_wash_3 : decode cX8_wash 3 = .ok (.istore_n 2, 1) := by decide +kernel
theorem dX8_wash_4 : decode cX8_wash 4 = .ok (.iload_n 2, 1) := by decide +kernel
theorem dX8_wash_5 : decode cX8_wash 5 = .ok (.bipush 6, 2) := by decide +kernel
theorem dX8_wash_7 : decode cX8_wash 7 = .ok (.if_icmp .ge 58, 3) := by decide +kernel
theorem dX8_wash_10 : decode cX8_wash 10 = .ok (.iload_n 2, 1) := by decide +kernel
theorem dX8_wash_11 : decode cX8_wash 11 = .ok (.iconst 1, 1) := by decide +kernel
theorem dX8_wash_12 : decode cX8_wash 12 = .ok (.iadd, 1) := by decide +kernel
theorem dX8_wash_13 : decode cX8_wash 13 = .ok (.istore_n 3, 1) := by decide +kernel
theorem dX8_wash_14 : decode cX8_wash 14 = .ok (.iload_n 3, 1) := by decide +kernel
theorem dX8_wash_15 : decode cX8_wash 15 = .ok (.bipush 6, 2) := by decide +kernel
theorem dX8_wash_17 : decode cX8_wash 17 = .ok (.if_icmp .ge 42, 3) := by decide +kernel
theorem dX8_wash_20 : decode cX8_wash 20 = .ok (.iload_n 1, 1) := by decide +kernel
theorem dX8_wash_21 : decode cX8_wash 21 = .ok (.aload_n 0, 1) := by decide +kernel
theorem dX8_wash_22 : decode cX8_wash 22 = .ok (.iload_n 2, 1) := by decide +kernel
theorem dX8_wash_23 : decode cX8_wash 23 = .ok (.iload_n 3, 1) := by decide +kernel
theorem dX8_wash_24 : decode cX8_wash 24 = .ok (.invokevirtual 190, 3) := by decide +kernel
theorem dX8_wash_27 : decode cX8_wash 27 = .ok (.aload_n 0, 1) := by decide +kernel
theorem dX8_wash_28 : decode cX8_wash 28 = .ok (.iload_n 3, 1) := by decide +kernel
theorem dX8_wash_29 : decode cX8_wash 29 = .ok (.iload_n 2, 1) := by decide +kernel
theorem dX8_wash_30 : decode cX8_wash 30 = .ok (.invokevirtual 190, 3) := by decide +kernel
theorem dX8_wash_33 : decode cX8_wash 33 = .ok (.if_icmp .ge 12, 3) := by decide +kernel
theorem dX8_wash_36 : decode cX8_wash 36 = .ok (.aload_n 0, 1) := by decide +kernel
theorem dX8_wash_37 : decode cX8_wash 37 = .ok (.iload_n 2, 1) := by decide +kernel
theorem dX8_wash_38 : decode cX8_wash 38 = .ok (.iload_n 3, 1) := by decide +kernel
theorem dX8_wash_39 : decode cX8_wash 39 = .ok (.invokevirtual 190, 3) := by decide +kernel
theorem dX8_wash_42 : decode cX8_wash 42 = .ok (.goto 9, 3) := by decide +kernel
theorem dX8_wash_45 : decode cX8_wash 45 = .ok (.aload_n 0, 1) := by decide +kernel
theorem dX8_wash_46 : decode cX8_wash 46 = .ok (.iload_n 3, 1) := by decide +kernel
theorem dX8_wash_47 : decode cX8_wash 47 = .ok (.iload_n 2, 1) := by decide +kernel
theorem dX8_wash_48 : decode cX8_wash 48 = .ok (.invokevirtual 190, 3) := by decide +kernel
theorem dX8_wash_51 : decode cX8_wash 51 = .ok (.iadd, 1) := by decide +kernel
theorem dX8_wash_52 : decode cX8_wash 52 = .ok (.istore_n 1, 1) := by decide +kernel
theorem dX8_wash_53 : decode cX8_wash 53 = .ok (.iinc 3 1, 3) := by decide +kernel
theorem dX8_wash_56 : decode cX8_wash 56 = .ok (.goto (-42), 3) := by decide +kernel
theorem dX8_wash_59 : decode cX8_wash 59 = .ok (.iinc 2 1, 3) := by decide +kernel
theorem dX8_wash_62 : decode cX8_wash 62 = .ok (.goto (-58), 3) := by decide +kernel
theorem dX8_wash_65 : decode cX8_wash 65 = .ok (.iload_n 1, 1) := by decide +kernel
theorem dX8_wash_66 : decode cX8_wash 66 = .ok (.ireturn, 1) := by decide +kernel
set_option maxRecDepth 20000 in
theorem ggX8_pricesOf_X8_has : GoodIn wsX8_pricesOf wsX8_has := goodIn_r _ [5] (by decide +kernel) (by decide +kernel)
set_option maxRecDepth 20000 in
theorem gX8_pricesOf_X8_has : GoodIn wsX8_pricesOf (va_wsS RX8 104 yX8_has wsX8_has) := goodIn_app (goodIn_of _ (by decide +kernel)) ggX8_pricesOf_X8_has
set_option maxRecDepth 20000 in
theorem ggX8_pricesOf_X8_rootOf : GoodIn wsX8_pricesOf wsX8_rootOf := goodIn_r _ [9, 1, 22, 23, 24, 25, 26, 27, 28, 29, 30, 31, 32, 33, 34, 35, 36, 37, 38] (by decide +kernel) (by decide +kernel)
set_option maxRecDepth 20000 in
theorem gX8_pricesOf_X8_rootOf : GoodIn wsX8_pricesOf (wsV RX8 139 RX8 yX8_rootOf wsX8_rootOf) := goodIn_app (goodIn_of _ (by decide +kernel)) ggX8_pricesOf_X8_rootOf
set_option maxRecDepth 20000 in
theorem ggX8_pricesOf_X8_price : GoodIn wsX8_pricesOf wsX8_price := goodIn_r _ [13, 1, 14, 15, 16, 4, 17, 2, 3, 5, 18, 19, 20, 21, 22, 23, 24, 25, 26, 27, 28, 29, 30, 31, 32, 33, 34, 35, 36, 37, 38] (by decide +kernel) (by decide +kernel)
set_option maxRecDepth 20000 in
theorem gX8_pricesOf_X8_price : GoodIn wsX8_pricesOf (wsV RX8 119 RX8 yX8_price wsX8_price) := goodIn_app (goodIn_of _ (by decide +kernel)) ggX8_pricesOf_X8_price
theorem dX8_pricesOf_0 : decode cX8_pricesOf 0 = .ok (.iconst 0, 1) := by decide +kernel
theorem dX8_pricesOf_1 : decode cX8_pricesOf 1 = .ok (.istore_n 2, 1) := by decide +kernel
theorem dX8_pricesOf_2 : decode cX8_pricesOf 2 = .ok (.iconst 0, 1) := by decide +kernel
theorem dX8_pricesOf_3 : decode cX8_pricesOf 3 = .ok (.istore_n 3, 1) := by decide +kernel
theorem dX8_pricesOf_4 : decode cX8_pricesOf 4 = .ok (.iload_n 3, 1) := by decide +kernel
theorem dX8_pricesOf_5 : decode cX8_pricesOf 5 = .ok (.aload_n 0, 1) := by decide +kernel
theorem dX8_pricesOf_6 : decode cX8_pricesOf 6 = .ok (.getfield 22, 3) := by decide +kernel
theorem dX8_pricesOf_9 : decode cX8_pricesOf 9 = .ok (.iconst 0, 1) := by decide +kernel
theorem dX8_pricesOf_10 : decode cX8_pricesOf 10 = .ok (.iaload, 1) := by decide +kernel
theorem dX8_pricesOf_11 : decode cX8_pricesOf 11 = .ok (.if_icmp .ge 72, 3) := by decide +kernel
theorem dX8_pricesOf_14 : decode cX8_pricesOf 14 = .ok (.aload_n 0, 1) := by decide +kernel
theorem dX8_pricesOf_15 : decode cX8_pricesOf 15 = .ok (.getfield 22, 3) := by decide +kernel
theorem dX8_pricesOf_18 : decode cX8_pricesOf 18 = .ok (.iconst 2, 1) := by decide +kernel
theorem dX8_pricesOf_19 : decode cX8_pricesOf 19 = .ok (.iaload, 1) := by decide +kernel
theorem dX8_pricesOf_20 : decode cX8_pricesOf 20 = .ok (.iload_n 3, 1) := by decide +kernel
theorem dX8_pricesOf_21 : decode cX8_pricesOf 21 = .ok (.invokestatic 104, 3) := by decide +kernel
theorem dX8_pricesOf_24 : decode cX8_pricesOf 24 = .ok (.ifCond .eq 27, 3) := by decide +kernel
theorem dX8_pricesOf_27 : decode cX8_pricesOf 27 = .ok (.iload_n 1, 1) := by decide +kernel
theorem dX8_pricesOf_28 : decode cX8_pricesOf 28 = .ok (.aload_n 0, 1) := by decide +kernel
theorem dX8_pricesOf_29 : decode cX8_pricesOf 29 = .ok (.getfield 22, 3) := by decide +kernel
theorem dX8_pricesOf_32 : decode cX8_pricesOf 32 = .ok (.bipush 15, 2) := by decide +kernel
theorem dX8_pricesOf_34 : decode cX8_pricesOf 34 = .ok (.aload_n 0, 1) := by decide +kernel
theorem dX8_pricesOf_35 : decode cX8_pricesOf 35 = .ok (.iload_n 3, 1) := by decide +kernel
theorem dX8_pricesOf_36 : decode cX8_pricesOf 36 = .ok (.invokevirtual 139, 3) := by decide +kernel
theorem dX8_pricesOf_39 : decode cX8_pricesOf 39 = .ok (.iadd, 1) := by decide +kernel
theorem dX8_pricesOf_40 : decode cX8_pricesOf 40 = .ok (.iaload, 1) := by decide +kernel
theorem dX8_pricesOf_41 : decode cX8_pricesOf 41 = .ok (.invokestatic 104, 3) := by decide +kernel
theorem dX8_pricesOf_44 : decode cX8_pricesOf 44 = .ok (.ifCond .eq 7, 3) := by decide +kernel
theorem dX8_pricesOf_47 : decode cX8_pricesOf 47 = .ok (.iconst 1, 1) := by decide +kernel
theorem dX8_pricesOf_48 : decode cX8_pricesOf 48 = .ok (.goto 4, 3) := by decide +kernel
theorem dX8_pricesOf_51 : decode cX8_pricesOf 51 = .ok (.iconst 0, 1) := by decide +kernel
theorem dX8_pricesOf_52 : decode cX8_pricesOf 52 = .ok (.istore 4, 2) := by decide +kernel
theorem dX8_pricesOf_54 : decode cX8_pricesOf 54 = .ok (.iload_n 2, 1) := by decide +kernel
theorem dX8_pricesOf_55 : decode cX8_pricesOf 55 = .ok (.iload 4, 2) := by decide +kernel
theorem dX8_pricesOf_57 : decode cX8_pricesOf 57 = .ok (.ifCond .eq 17, 3) := by decide +kernel
theorem dX8_pricesOf_60 : decode cX8_pricesOf 60 = .ok (.aload_n 0, 1) := by decide +kernel
theorem dX8_pricesOf_61 : decode cX8_pricesOf 61 = .ok (.iload_n 3, 1) := by decide +kernel
theorem dX8_pricesOf_62 : decode cX8_pricesOf 62 = .ok (.aload_n 0, 1) := by decide +kernel
theorem dX8_pricesOf_63 : decode cX8_pricesOf 63 = .ok (.getfield 22, 3) := by decide +kernel
theorem dX8_pricesOf_66 : decode cX8_pricesOf 66 = .ok (.iconst 2, 1) := by decide +kernel
theorem dX8_pricesOf_67 : decode cX8_pricesOf 67 = .ok (.iaload, 1) := by decide +kernel
theorem dX8_pricesOf_68 : decode cX8_pricesOf 68 = .ok (.invokevirtual 119, 3) := by decide +kernel
theorem dX8_pricesOf_71 : decode cX8_pricesOf 71 = .ok (.goto 4, 3) := by decide +kernel
theorem dX8_pricesOf_74 : decode cX8_pricesOf 74 = .ok (.iconst 0, 1) := by decide +kernel
theorem dX8_pricesOf_75 : decode cX8_pricesOf 75 = .ok (.iadd, 1) := by decide +kernel
theorem dX8_pricesOf_76 : decode cX8_pricesOf 76 = .ok (.istore_n 2, 1) := by decide +kernel
theorem dX8_pricesOf_77 : decode cX8_pricesOf 77 = .ok (.iinc 3 1, 3) := by decide +kernel
theorem dX8_pricesOf_80 : decode cX8_pricesOf 80 = .ok (.goto (-76), 3) := by decide +kernel
theorem dX8_pricesOf_83 : decode cX8_pricesOf 83 = .ok (.iload_n 2, 1) := by decide +kernel
theorem dX8_pricesOf_84 : decode cX8_pricesOf 84 = .ok (.ireturn, 1) := by decide +kernel
set_option maxRecDepth 20000 in
theorem ggX8_bill_X8_isPerson : GoodIn wsX8_bill wsX8_isPerson := goodIn_r _ [5, 6, 7, 8, 4, 9] (by decide +kernel) (by decide +kernel)
set_option maxRecDepth 20000 in
theorem gX8_bill_X8_isPerson : GoodIn wsX8_bill (va_wsS RX8 146 yX8_isPerson wsX8_isPerson) := goodIn_app (goodIn_of _ (by decide +kernel)) ggX8_bill_X8_isPerson
set_option maxRecDepth 20000 in
theorem ggX8_bill_X8_found : GoodIn wsX8_bill wsX8_found := goodIn_r _ [13, 14, 15, 45, 46, 47, 48, 49, 50, 51, 52, 53, 54, 55, 56, 57, 58, 59, 60, 61] (by decide +kernel) (by decide +kernel)
set_option maxRecDepth 20000 in
theorem gX8_bill_X8_found : GoodIn wsX8_bill (wsV RX8 71 RX8 yX8_found wsX8_found) := goodIn_app (goodIn_of _ (by decide +kernel)) ggX8_bill_X8_found
set_option maxRecDepth 20000 in
theorem ggX8_bill_X8_pricesOf : GoodIn wsX8_bill wsX8_pricesOf := goodIn_r _ [19, 1, 20, 21, 4, 22, 23, 24, 25, 26, 27, 28, 29, 30, 31, 32, 33, 34, 35, 36, 37, 38, 45, 46, 47, 48, 49, 50, 51, 52, 53, 54, 55, 56, 57, 58, 59, 60, 61] (by decide +kernel) (by decide +kernel)
set_option maxRecDepth 20000 in
theorem gX8_bill_X8_pricesOf : GoodIn wsX8_bill (wsV RX8 193 RX8 yX8_pricesOf wsX8_pricesOf) := goodIn_app (goodIn_of _ (by decide +kernel)) ggX8_bill_X8_pricesOf
set_option maxRecDepth 20000 in
theorem ggX8_bill_X8_fraction : GoodIn wsX8_bill wsX8_fraction := goodIn_r _ [42, 43, 44, 45, 46, 47, 48, 49, 50, 51, 52, 53, 54, 55, 56, 57, 58, 59, 60, 61] (by decide +kernel) (by decide +kernel)
set_option maxRecDepth 20000 in
theorem gX8_bill_X8_fraction : GoodIn wsX8_bill (wsV RX8 180 RX8 yX8_fraction wsX8_fraction) := goodIn_app (goodIn_of _ (by decide +kernel)) ggX8_bill_X8_fraction
theorem dX8_bill_0 : decode cX8_bill 0 = .ok (.iload_n 1, 1) := by decide +kernel
theorem dX8_bill_1 : decode cX8_bill 1 = .ok (.invokestatic 146, 3) := by decide +kernel
theorem dX8_bill_4 : decode cX8_bill 4 = .ok (.ifCond .ne 5, 3) := by decide +kernel
theorem dX8_bill_7 : decode cX8_bill 7 = .ok (.iconst (-1), 1) := by decide +kernel
theorem dX8_bill_8 : decode cX8_bill 8 = .ok (.ireturn, 1) := by decide +kernel
theorem dX8_bill_9 : decode cX8_bill 9 = .ok (.aload_n 0, 1) := by decide +kernel
theorem dX8_bill_10 : decode cX8_bill 10 = .ok (.getfield 22, 3) := by decide +kernel
theorem dX8_bill_13 : decode cX8_bill 13 = .ok (.iconst 2, 1) := by decide +kernel
theorem dX8_bill_14 : decode cX8_bill 14 = .ok (.iaload, 1) := by decide +kernel
theorem dX8_bill_15 : decode cX8_bill 15 = .ok (.ifCond .ne 11, 3) := by decide +kernel
theorem dX8_bill_18 : decode cX8_bill 18 = .ok (.aload_n 0, 1) := by decide +kernel
theorem dX8_bill_19 : decode cX8_bill 19 = .ok (.iconst 4, 1) := by decide +kernel
theorem dX8_bill_20 : decode cX8_bill 20 = .ok (.invokevirtual 71, 3) := by decide +kernel
theorem dX8_bill_23 : decode cX8_bill 23 = .ok (.goto 22, 3) := by decide +kernel
theorem dX8_bill_26 : decode cX8_bill 26 = .ok (.aload_n 0, 1) := by decide +kernel
theorem dX8_bill_27 : decode cX8_bill 27 = .ok (.aload_n 0, 1) := by decide +kernel
theorem dX8_bill_28 : decode cX8_bill 28 = .ok (.iconst 1, 1) := by decide +kernel
theorem dX8_bill_29 : decode cX8_bill 29 = .ok (.iload_n 1, 1) := by decide +kernel
theorem dX8_bill_30 : decode cX8_bill 30 = .ok (.ishl, 1) := by decide +kernel
theorem dX8_bill_31 : decode cX8_bill 31 = .ok (.invokevirtual 193, 3) := by decide +kernel
theorem dX8_bill_34 : decode cX8_bill 34 = .ok (.i2l, 1) := by decide +kernel
theorem dX8_bill_35 : decode cX8_bill 35 = .ok (.aload_n 0, 1) := by decide +kernel
theorem dX8_bill_36 : decode cX8_bill 36 = .ok (.bipush 63, 2) := by decide +kernel
theorem dX8_bill_38 : decode cX8_bill 38 = .ok (.invokevirtual 193, 3) := by decide +kernel
theorem dX8_bill_41 : decode cX8_bill 41 = .ok (.i2l, 1) := by decide +kernel
theorem dX8_bill_42 : decode cX8_bill 42 = .ok (.invokevirtual 180, 3) := by decide +kernel
theorem dX8_bill_45 : decode cX8_bill 45 = .ok (.ireturn, 1) := by decide +kernel
set_option maxRecDepth 20000 in
theorem ggX8_colour_X8_isSaying : GoodIn wsX8_colour wsX8_isSaying := goodIn_r _ [7, 2, 8, 9, 6, 10, 18, 19, 20, 21, 22, 23, 24, 25, 26, 27, 28, 29, 30, 31, 32, 33, 34] (by decide +kernel) (by decide +kernel)
set_option maxRecDepth 20000 in
theorem gX8_colour_X8_isSaying : GoodIn wsX8_colour (wsV RX8 122 RX8 yX8_isSaying wsX8_isSaying) := goodIn_app (goodIn_of _ (by decide +kernel)) ggX8_colour_X8_isSaying
set_option maxRecDepth 20000 in
theorem ggX8_colour_X8_in : GoodIn wsX8_colour wsX8_in := goodIn_r _ [10] (by decide +kernel) (by decide +kernel)
set_option maxRecDepth 20000 in
theorem gX8_colour_X8_in : GoodIn wsX8_colour (va_wsS RX8 61 yX8_in wsX8_in) := goodIn_app (goodIn_of _ (by decide +kernel)) ggX8_colour_X8_in
set_option maxRecDepth 20000 in
theorem ggX8_colour_X8_answering : GoodIn wsX8_colour wsX8_answering := goodIn_r _ [14, 2, 15, 16, 6, 17, 18, 19, 20, 21, 22, 23, 24, 25, 26, 27, 28, 29, 30, 31, 32, 33, 34] (by decide +kernel) (by decide +kernel)
set_option maxRecDepth 20000 in
theorem gX8_colour_X8_answering : GoodIn wsX8_colour (wsV RX8 116 RX8 yX8_answering wsX8_answering) := goodIn_app (goodIn_of _ (by decide +kernel)) ggX8_colour_X8_answering
theorem dX8_colour_0 : decode cX8_colour 0 = .ok (.aload_n 0, 1) := by decide +kernel
theorem dX8_colour_1 : decode cX8_colour 1 = .ok (.iload_n 1, 1) := by decide +kernel
theorem dX8_colour_2 : decode cX8_colour 2 = .ok (.invokevirtual 122, 3) := by decide +kernel
theorem dX8_colour_5 : decode cX8_colour 5 = .ok (.ifCond .eq 15, 3) := by decide +kernel
theorem dX8_colour_8 : decode cX8_colour 8 = .ok (.iload_n 2, 1) := by decide +kernel
theorem dX8_colour_9 : decode cX8_colour 9 = .ok (.i2l, 1) := by decide +kernel
theorem dX8_colour_10 : decode cX8_colour 10 = .ok (.lconst 0, 1) := by decide +kernel
theorem dX8_colour_11 : decode cX8_colour 11 = .ok (.ldc2_w 196, 3) := by decide +kernel
theorem dX8_colour_14 : decode cX8_colour 14 = .ok (.invokestatic 61, 3) := by decide +kernel
theorem dX8_colour_17 : decode cX8_colour 17 = .ok (.ifCond .ne 5, 3) := by decide +kernel
theorem dX8_colour_20 : decode cX8_colour 20 = .ok (.iconst (-1), 1) := by decide +kernel
theorem dX8_colour_21 : decode cX8_colour 21 = .ok (.ireturn, 1) := by decide +kernel
theorem dX8_colour_22 : decode cX8_colour 22 = .ok (.aload_n 0, 1) := by decide +kernel
theorem dX8_colour_23 : decode cX8_colour 23 = .ok (.iload_n 1, 1) := by decide +kernel
theorem dX8_colour_24 : decode cX8_colour 24 = .ok (.aload_n 0, 1) := by decide +kernel
theorem dX8_colour_25 : decode cX8_colour 25 = .ok (.getfield 22, 3) := by decide +kernel
theorem dX8_colour_28 : decode cX8_colour 28 = .ok (.iconst 2, 1) := by decide +kernel
theorem dX8_colour_29 : decode cX8_colour 29 = .ok (.iaload, 1) := by decide +kernel
theorem dX8_colour_30 : decode cX8_colour 30 = .ok (.invokevirtual 116, 3) := by decide +kernel
theorem dX8_colour_33 : decode cX8_colour 33 = .ok (.aload_n 0, 1) := by decide +kernel
theorem dX8_colour_34 : decode cX8_colour 34 = .ok (.getfield 22, 3) := by decide +kernel
theorem dX8_colour_37 : decode cX8_colour 37 = .ok (.iconst 3, 1) := by decide +kernel
theorem dX8_colour_38 : decode cX8_colour 38 = .ok (.iload_n 1, 1) := by decide +kernel
theorem dX8_colour_39 : decode cX8_colour 39 = .ok (.iadd, 1) := by decide +kernel
theorem dX8_colour_40 : decode cX8_colour 40 = .ok (.iaload, 1) := by decide +kernel
theorem dX8_colour_41 : decode cX8_colour 41 = .ok (.iconst 5, 1) := by decide +kernel
theorem dX8_colour_42 : decode cX8_colour 42 = .ok (.if_icmp .ne 7, 3) := by decide +kernel
theorem dX8_colour_45 : decode cX8_colour 45 = .ok (.iconst 2, 1) := by decide +kernel
theorem dX8_colour_46 : decode cX8_colour 46 = .ok (.goto 4, 3) := by decide +kernel
theorem dX8_colour_49 : decode cX8_colour 49 = .ok (.iconst 0, 1) := by decide +kernel
theorem dX8_colour_50 : decode cX8_colour 50 = .ok (.iadd, 1) := by decide +kernel
theorem dX8_colour_51 : decode cX8_colour 51 = .ok (.istore_n 3, 1) := by decide +kernel
theorem dX8_colour_52 : decode cX8_colour 52 = .ok (.aload_n 0, 1) := by decide +kernel
theorem dX8_colour_53 : decode cX8_colour 53 = .ok (.getfield 22, 3) := by decide +kernel
theorem dX8_colour_56 : decode cX8_colour 56 = .ok (.bipush 39, 2) := by decide +kernel
theorem dX8_colour_58 : decode cX8_colour 58 = .ok (.iload_n 1, 1) := by decide +kernel
theorem dX8_colour_59 : decode cX8_colour 59 = .ok (.iadd, 1) := by decide +kernel
theorem dX8_colour_60 : decode cX8_colour 60 = .ok (.iaload, 1) := by decide +kernel
theorem dX8_colour_61 : decode cX8_colour 61 = .ok (.iload_n 2, 1) := by decide +kernel
theorem dX8_colour_62 : decode cX8_colour 62 = .ok (.iload_n 3, 1) := by decide +kernel
theorem dX8_colour_63 : decode cX8_colour 63 = .ok (.imul, 1) := by decide +kernel
theorem dX8_colour_64 : decode cX8_colour 64 = .ok (.iadd, 1) := by decide +kernel
theorem dX8_colour_65 : decode cX8_colour 65 = .ok (.bipush 6, 2) := by decide +kernel
theorem dX8_colour_67 : decode cX8_colour 67 = .ok (.irem, 1) := by decide +kernel
theorem dX8_colour_68 : decode cX8_colour 68 = .ok (.ireturn, 1) := by decide +kernel
set_option maxRecDepth 20000 in
theorem ggX8_lots_X8_in : GoodIn wsX8_lots wsX8_in := goodIn_r _ [9] (by decide +kernel) (by decide +kernel)
set_option maxRecDepth 20000 in
theorem gX8_lots_X8_in : GoodIn wsX8_lots (va_wsS RX8 61 yX8_in wsX8_in) := goodIn_app (goodIn_of _ (by decide +kernel)) ggX8_lots_X8_in
set_option maxRecDepth 20000 in
theorem ggX8_lots_X8_allThatMay : GoodIn wsX8_lots wsX8_allThatMay := goodIn_r _ [13, 3, 14, 15, 16, 8, 17, 18, 19, 20, 21, 22, 23, 24, 48, 49, 50, 51, 52, 53, 54, 55, 56, 57, 58, 59, 60, 61, 62, 63, 64] (by decide +kernel) (by decide +kernel)
set_option maxRecDepth 20000 in
theorem gX8_lots_X8_allThatMay : GoodIn wsX8_lots (wsV RX8 159 RX8 yX8_allThatMay wsX8_allThatMay) := goodIn_app (goodIn_of _ (by decide +kernel)) ggX8_lots_X8_allThatMay
set_option maxRecDepth 20000 in
theorem ggX8_lots_X8_bits : GoodIn wsX8_lots wsX8_bits := goodIn_r _ [27] (by decide +kernel) (by decide +kernel)
set_option maxRecDepth 20000 in
theorem gX8_lots_X8_bits : GoodIn wsX8_lots (va_wsS RX8 136 yX8_bits wsX8_bits) := goodIn_app (goodIn_of _ (by decide +kernel)) ggX8_lots_X8_bits
set_option maxRecDepth 20000 in
theorem ggX8_lots_X8_has : GoodIn wsX8_lots wsX8_has := goodIn_r _ [20] (by decide +kernel) (by decide +kernel)
set_option maxRecDepth 20000 in
theorem gX8_lots_X8_has : GoodIn wsX8_lots (va_wsS RX8 104 yX8_has wsX8_has) := goodIn_app (goodIn_of _ (by decide +kernel)) ggX8_lots_X8_has
set_option maxRecDepth 20000 in
theorem ggX8_lots_X8_unsays : GoodIn wsX8_lots wsX8_unsays := goodIn_r _ [31, 3, 32, 33, 34, 8, 35, 36, 37, 38, 39, 18, 19, 20, 40, 41, 42, 43, 44, 45, 46, 47, 48, 49, 50, 51, 52, 53, 54, 55, 56, 57, 58, 59, 60, 61, 62, 63, 64] (by decide +kernel) (by decide +kernel)
set_option maxRecDepth 20000 in
theorem gX8_lots_X8_unsays : GoodIn wsX8_lots (wsV RX8 156 RX8 yX8_unsays wsX8_unsays) := goodIn_app (goodIn_of _ (by decide +kernel)) ggX8_lots_X8_unsays
theorem dX8_lots_0 : decode cX8_lots 0 = .ok (.iload_n 1, 1) := by decide +kernel
theorem dX8_lots_1 : decode cX8_lots 1 = .ok (.i2l, 1) := by decide +kernel
theorem dX8_lots_2 : decode cX8_lots 2 = .ok (.lconst 1, 1) := by decide +kernel
theorem dX8_lots_3 : decode cX8_lots 3 = .ok (.ldc2_w 198, 3) := by decide +kernel
theorem dX8_lots_6 : decode cX8_lots 6 = .ok (.invokestatic 61, 3) := by decide +kernel
theorem dX8_lots_9 : decode cX8_lots 9 = .ok (.ifCond .eq 15, 3) := by decide +kernel
theorem dX8_lots_12 : decode cX8_lots 12 = .ok (.iload_n 2, 1) := by decide +kernel
theorem dX8_lots_13 : decode cX8_lots 13 = .ok (.i2l, 1) := by decide +kernel
theorem dX8_lots_14 : decode cX8_lots 14 = .ok (.lconst 1, 1) := by decide +kernel
theorem dX8_lots_15 : decode cX8_lots 15 = .ok (.ldc2_w 200, 3) := by decide +kernel
theorem dX8_lots_18 : decode cX8_lots 18 = .ok (.invokestatic 61, 3) := by decide +kernel
theorem dX8_lots_21 : decode cX8_lots 21 = .ok (.ifCond .ne 5, 3) := by decide +kernel
theorem dX8_lots_24 : decode cX8_lots 24 = .ok (.iconst (-1), 1) := by decide +kernel
theorem dX8_lots_25 : decode cX8_lots 25 = .ok (.ireturn, 1) := by decide +kernel
theorem dX8_lots_26 : decode cX8_lots 26 = .ok (.iload_n 2, 1) := by decide +kernel
theorem dX8_lots_27 : decode cX8_lots 27 = .ok (.i2l, 1) := by decide +kernel
theorem dX8_lots_28 : decode cX8_lots 28 = .ok (.lstore_n 3, 1) := by decide +kernel
theorem dX8_lots_29 : decode cX8_lots 29 = .ok (.iconst 0, 1) := by decide +kernel
theorem dX8_lots_30 : decode cX8_lots 30 = .ok (.istore 5, 2) := by decide +kernel
theorem dX8_lots_32 : decode cX8_lots 32 = .ok (.aload_n 0, 1) := by decide +kernel
theorem dX8_lots_33 : decode cX8_lots 33 = .ok (.aload_n 0, 1) := by decide +kernel
theorem dX8_lots_34 : decode cX8_lots 34 = .ok (.getfield 22, 3) := by decide +kernel
theorem dX8_lots_37 : decode cX8_lots 37 = .ok (.iconst 2, 1) := by decide +kernel
theorem dX8_lots_38 : decode cX8_lots 38 = .ok (.iaload, 1) := by decide +kernel
theorem dX8_lots_39 : decode cX8_lots 39 = .ok (.invokevirtual 159, 3) := by decide +kernel
theorem dX8_lots_42 : decode cX8_lots 42 = .ok (.istore 6, 2) := by decide +kernel
theorem dX8_lots_44 : decode cX8_lots 44 = .ok (.iconst 0, 1) := by decide +kernel
theorem dX8_lots_45 : decode cX8_lots 45 = .ok (.istore 7, 2) := by decide +kernel
theorem dX8_lots_47 : decode cX8_lots 47 = .ok (.iload 7, 2) := by decide +kernel
theorem dX8_lots_49 : decode cX8_lots 49 = .ok (.iload_n 1, 1) := by decide +kernel
theorem dX8_lots_50 : decode cX8_lots 50 = .ok (.if_icmp .ge 113, 3) := by decide +kernel
theorem dX8_lots_53 : decode cX8_lots 53 = .ok (.iload 6, 2) := by decide +kernel
theorem dX8_lots_55 : decode cX8_lots 55 = .ok (.ifCond .eq 108, 3) := by decide +kernel
theorem dX8_lots_58 : decode cX8_lots 58 = .ok (.aload_n 0, 1) := by decide +kernel
theorem dX8_lots_59 : decode cX8_lots 59 = .ok (.getfield 22, 3) := by decide +kernel
theorem dX8_lots_62 : decode cX8_lots 62 = .ok (.iconst 1, 1) := by decide +kernel
theorem dX8_lots_63 : decode cX8_lots 63 = .ok (.iaload, 1) := by decide +kernel
theorem dX8_lots_64 : decode cX8_lots 64 = .ok (.bipush 40, 2) := by decide +kernel
theorem dX8_lots_66 : decode cX8_lots 66 = .ok (.if_icmp .ge 97, 3) := by decide +kernel
theorem dX8_lots_69 : decode cX8_lots 69 = .ok (.ldc2_w 202, 3) := by decide +kernel
theorem dX8_lots_72 : decode cX8_lots 72 = .ok (.lload_n 3, 1) := by decide +kernel
theorem dX8_lots_73 : decode cX8_lots 73 = .ok (.lmul, 1) := by decide +kernel
theorem dX8_lots_74 : decode cX8_lots 74 = .ok (.ldc2_w 204, 3) := by decide +kernel
theorem dX8_lots_77 : decode cX8_lots 77 = .ok (.lrem, 1) := by decide +kernel
theorem dX8_lots_78 : decode cX8_lots 78 = .ok (.lstore_n 3, 1) := by decide +kernel
theorem dX8_lots_79 : decode cX8_lots 79 = .ok (.lload_n 3, 1) := by decide +kernel
theorem dX8_lots_80 : decode cX8_lots 80 = .ok (.iload 6, 2) := by decide +kernel
theorem dX8_lots_82 : decode cX8_lots 82 = .ok (.invokestatic 136, 3) := by decide +kernel
theorem dX8_lots_85 : decode cX8_lots 85 = .ok (.i2l, 1) := by decide +kernel
theorem dX8_lots_86 : decode cX8_lots 86 = .ok (.lrem, 1) := by decide +kernel
theorem dX8_lots_87 : decode cX8_lots 87 = .ok (.l2i, 1) := by decide +kernel
theorem dX8_lots_88 : decode cX8_lots 88 = .ok (.istore 8, 2) := by decide +kernel
theorem dX8_lots_90 : decode cX8_lots 90 = .ok (.iconst 0, 1) := by decide +kernel
theorem dX8_lots_91 : decode cX8_lots 91 = .ok (.istore 9, 2) := by decide +kernel
theorem dX8_lots_93 : decode cX8_lots 93 = .ok (.iload 6, 2) := by decide +kernel
theorem dX8_lots_95 : decode cX8_lots 95 = .ok (.iload 9, 2) := by decide +kernel
theorem dX8_lots_97 : decode cX8_lots 97 = .ok (.invokestatic 104, 3) := by decide +kernel
theorem dX8_lots_100 : decode cX8_lots 100 = .ok (.ifCond .eq 8, 3) := by decide +kernel
theorem dX8_lots_103 : decode cX8_lots 103 = .ok (.iload 8, 2) := by decide +kernel
theorem dX8_lots_105 : decode cX8_lots 105 = .ok (.ifCond .le 29, 3) := by decide +kernel
theorem dX8_lots_108 : decode cX8_lots 108 = .ok (.iload 8, 2) := by decide +kernel
theorem dX8_lots_110 : decode cX8_lots 110 = .ok (.iload 6, 2) := by decide +kernel
theorem dX8_lots_112 : decode cX8_lots 112 = .ok (.iload 9, 2) := by decide +kernel
theorem dX8_lots_114 : decode cX8_lots 114 = .ok (.invokestatic 104, 3) := by decide +kernel
theorem dX8_lots_117 : decode cX8_lots 117 = .ok (.ifCond .eq 7, 3) := by decide +kernel
theorem dX8_lots_120 : decode cX8_lots 120 = .ok (.iconst 1, 1) := by decide +kernel
theorem dX8_lots_121 : decode cX8_lots 121 = .ok (.goto 4, 3) := by decide +kernel
theorem dX8_lots_124 : decode cX8_lots 124 = .ok (.iconst 0, 1) := by decide +kernel
theorem dX8_lots_125 : decode cX8_lots 125 = .ok (.isub, 1) := by decide +kernel
theorem dX8_lots_126 : decode cX8_lots 126 = .ok (.istore 8, 2) := by decide +kernel
theorem dX8_lots_128 : decode cX8_lots 128 = .ok (.iinc 9 1, 3) := by decide +kernel
theorem dX8_lots_131 : decode cX8_lots 131 = .ok (.goto (-38), 3) := by decide +kernel
theorem dX8_lots_134 : decode cX8_lots 134 = .ok (.iload 5, 2) := by decide +kernel
theorem dX8_lots_136 : decode cX8_lots 136 = .ok (.aload_n 0, 1) := by decide +kernel
theorem dX8_lots_137 : decode cX8_lots 137 = .ok (.iload 9, 2) := by decide +kernel
theorem dX8_lots_139 : decode cX8_lots 139 = .ok (.invokevirtual 156, 3) := by decide +kernel
theorem dX8_lots_142 : decode cX8_lots 142 = .ok (.iadd, 1) := by decide +kernel
theorem dX8_lots_143 : decode cX8_lots 143 = .ok (.istore 5, 2) := by decide +kernel
theorem dX8_lots_145 : decode cX8_lots 145 = .ok (.aload_n 0, 1) := by decide +kernel
theorem dX8_lots_146 : decode cX8_lots 146 = .ok (.aload_n 0, 1) := by decide +kernel
theorem dX8_lots_147 : decode cX8_lots 147 = .ok (.getfield 22, 3) := by decide +kernel
theorem dX8_lots_150 : decode cX8_lots 150 = .ok (.iconst 2, 1) := by decide +kernel
theorem dX8_lots_151 : decode cX8_lots 151 = .ok (.iaload, 1) := by decide +kernel
theorem dX8_lots_152 : decode cX8_lots 152 = .ok (.invokevirtual 159, 3) := by decide +kernel
theorem dX8_lots_155 : decode cX8_lots 155 = .ok (.istore 6, 2) := by decide +kernel
theorem dX8_lots_157 : decode cX8_lots 157 = .ok (.iinc 7 1, 3) := by decide +kernel
theorem dX8_lots_160 : decode cX8_lots 160 = .ok (.goto (-113), 3) := by decide +kernel
theorem dX8_lots_163 : decode cX8_lots 163 = .ok (.iload 5, 2) := by decide +kernel
theorem dX8_lots_165 : decode cX8_lots 165 = .ok (.ireturn, 1) := by decide +kernel
theorem dX8_asked_0 : decode cX8_asked 0 = .ok (.aload_n 0, 1) := by decide +kernel
theorem dX8_asked_1 : decode cX8_asked 1 = .ok (.getfield 56, 3) := by decide +kernel
theorem dX8_asked_4 : decode cX8_asked 4 = .ok (.ireturn, 1) := by decide +kernel
theorem dX8_upper_0 : decode cX8_upper 0 = .ok (.aload_n 0, 1) := by decide +kernel
theorem dX8_upper_1 : decode cX8_upper 1 = .ok (.getfield 177, 3) := by decide +kernel
theorem dX8_upper_4 : decode cX8_upper 4 = .ok (.lreturn, 1) := by decide +kernel
theorem dX8_lower_0 : decode cX8_lower 0 = .ok (.aload_n 0, 1) := by decide +kernel
theorem dX8_lower_1 : decode cX8_lower 1 = .ok (.getfield 32, 3) := by decide +kernel
theorem dX8_lower_4 : decode cX8_lower 4 = .ok (.lreturn, 1) := by decide +kernel
set_option maxRecDepth 20000 in
theorem ggX8_counted_X8_isOf : GoodIn wsX8_counted wsX8_isOf := goodIn_r _ [8] (by decide +kernel) (by decide +kernel)
set_option maxRecDepth 20000 in
theorem gX8_counted_X8_isOf : GoodIn wsX8_counted (va_wsS RX8 130 yX8_isOf wsX8_isOf) := goodIn_app (goodIn_of _ (by decide +kernel)) ggX8_counted_X8_isOf
set_option maxRecDepth 20000 in
theorem ggX8_counted_X8_bits : GoodIn wsX8_counted wsX8_bits := goodIn_r _ [11] (by decide +kernel) (by decide +kernel)
set_option maxRecDepth 20000 in
theorem gX8_counted_X8_bits : GoodIn wsX8_counted (va_wsS RX8 136 yX8_bits wsX8_bits) := goodIn_app (goodIn_of _ (by decide +kernel)) ggX8_counted_X8_bits
set_option maxRecDepth 20000 in
theorem ggX8_counted_X8_pricesOf : GoodIn wsX8_counted wsX8_pricesOf := goodIn_r _ [15, 1, 16, 17, 7, 18, 19, 20, 21, 22, 23, 24, 25, 26, 27, 28, 29, 30, 31, 32, 33, 34, 35, 36, 37, 38, 39, 40, 41, 42, 43, 44, 45, 46, 47, 48, 49, 50, 51] (by decide +kernel) (by decide +kernel)
set_option maxRecDepth 20000 in
theorem gX8_counted_X8_pricesOf : GoodIn wsX8_counted (wsV RX8 193 RX8 yX8_pricesOf wsX8_pricesOf) := goodIn_app (goodIn_of _ (by decide +kernel)) ggX8_counted_X8_pricesOf
theorem dX8_counted_0 : decode cX8_counted 0 = .ok (.iconst 0, 1) := by decide +kernel
theorem dX8_counted_1 : decode cX8_counted 1 = .ok (.istore_n 2, 1) := by decide +kernel
theorem dX8_counted_2 : decode cX8_counted 2 = .ok (.iconst 0, 1) := by decide +kernel
theorem dX8_counted_3 : decode cX8_counted 3 = .ok (.istore_n 3, 1) := by decide +kernel
theorem dX8_counted_4 : decode cX8_counted 4 = .ok (.iconst 0, 1) := by decide +kernel
theorem dX8_counted_5 : decode cX8_counted 5 = .ok (.istore 4, 2) := by decide +kernel
theorem dX8_counted_7 : decode cX8_counted 7 = .ok (.iload 4, 2) := by decide +kernel
theorem dX8_counted_9 : decode cX8_counted 9 = .ok (.aload_n 0, 1) := by decide +kernel
theorem dX8_counted_10 : decode cX8_counted 10 = .ok (.getfield 22, 3) := by decide +kernel
theorem dX8_counted_13 : decode cX8_counted 13 = .ok (.iconst 0, 1) := by decide +kernel
theorem dX8_counted_14 : decode cX8_counted 14 = .ok (.iaload, 1) := by decide +kernel
theorem dX8_counted_15 : decode cX8_counted 15 = .ok (.if_icmp .ge 67, 3) := by decide +kernel
theorem dX8_counted_18 : decode cX8_counted 18 = .ok (.iload_n 2, 1) := by decide +kernel
theorem dX8_counted_19 : decode cX8_counted 19 = .ok (.aload_n 0, 1) := by decide +kernel
theorem dX8_counted_20 : decode cX8_counted 20 = .ok (.getfield 22, 3) := by decide +kernel
theorem dX8_counted_23 : decode cX8_counted 23 = .ok (.bipush 63, 2) := by decide +kernel
theorem dX8_counted_25 : decode cX8_counted 25 = .ok (.iload 4, 2) := by decide +kernel
theorem dX8_counted_27 : decode cX8_counted 27 = .ok (.iadd, 1) := by decide +kernel
theorem dX8_counted_28 : decode cX8_counted 28 = .ok (.iaload, 1) := by decide +kernel
theorem dX8_counted_29 : decode cX8_counted 29 = .ok (.bipush (-9), 2) := by decide +kernel
theorem dX8_counted_31 : decode cX8_counted 31 = .ok (.if_icmp .ne 18, 3) := by decide +kernel
theorem dX8_counted_34 : decode cX8_counted 34 = .ok (.iconst 1, 1) := by decide +kernel
theorem dX8_counted_35 : decode cX8_counted 35 = .ok (.aload_n 0, 1) := by decide +kernel
theorem dX8_counted_36 : decode cX8_counted 36 = .ok (.getfield 22, 3) := by decide +kernel
theorem dX8_counted_39 : decode cX8_counted 39 = .ok (.bipush 15, 2) := by decide +kernel
theorem dX8_counted_41 : decode cX8_counted 41 = .ok (.iload 4, 2) := by decide +kernel
theorem dX8_counted_43 : decode cX8_counted 43 = .ok (.iadd, 1) := by decide +kernel
theorem dX8_counted_44 : decode cX8_counted 44 = .ok (.iaload, 1) := by decide +kernel
theorem dX8_counted_45 : decode cX8_counted 45 = .ok (.ishl, 1) := by decide +kernel
theorem dX8_counted_46 : decode cX8_counted 46 = .ok (.goto 4, 3) := by decide +kernel
theorem dX8_counted_49 : decode cX8_counted 49 = .ok (.iconst 0, 1) := by decide +kernel
theorem dX8_counted_50 : decode cX8_counted 50 = .ok (.ior, 1) := by decide +kernel
theorem dX8_counted_51 : decode cX8_counted 51 = .ok (.istore_n 2, 1) := by decide +kernel
theorem dX8_counted_52 : decode cX8_counted 52 = .ok (.iload_n 3, 1) := by decide +kernel
theorem dX8_counted_53 : decode cX8_counted 53 = .ok (.aload_n 0, 1) := by decide +kernel
theorem dX8_counted_54 : decode cX8_counted 54 = .ok (.getfield 22, 3) := by decide +kernel
theorem dX8_counted_57 : decode cX8_counted 57 = .ok (.iconst 3, 1) := by decide +kernel
theorem dX8_counted_58 : decode cX8_counted 58 = .ok (.iload 4, 2) := by decide +kernel
theorem dX8_counted_60 : decode cX8_counted 60 = .ok (.iadd, 1) := by decide +kernel
theorem dX8_counted_61 : decode cX8_counted 61 = .ok (.iaload, 1) := by decide +kernel
theorem dX8_counted_62 : decode cX8_counted 62 = .ok (.iconst 1, 1) := by decide +kernel
theorem dX8_counted_63 : decode cX8_counted 63 = .ok (.invokestatic 130, 3) := by decide +kernel
theorem dX8_counted_66 : decode cX8_counted 66 = .ok (.ifCond .eq 7, 3) := by decide +kernel
theorem dX8_counted_69 : decode cX8_counted 69 = .ok (.iconst 1, 1) := by decide +kernel
theorem dX8_counted_70 : decode cX8_counted 70 = .ok (.goto 4, 3) := by decide +kernel
theorem dX8_counted_73 : decode cX8_counted 73 = .ok (.iconst 0, 1) := by decide +kernel
theorem dX8_counted_74 : decode cX8_counted 74 = .ok (.iadd, 1) := by decide +kernel
theorem dX8_counted_75 : decode cX8_counted 75 = .ok (.istore_n 3, 1) := by decide +kernel
theorem dX8_counted_76 : decode cX8_counted 76 = .ok (.iinc 4 1, 3) := by decide +kernel
theorem dX8_counted_79 : decode cX8_counted 79 = .ok (.goto (-72), 3) := by decide +kernel
theorem dX8_counted_82 : decode cX8_counted 82 = .ok (.iconst 0, 1) := by decide +kernel
theorem dX8_counted_83 : decode cX8_counted 83 = .ok (.istore 4, 2) := by decide +kernel
theorem dX8_counted_85 : decode cX8_counted 85 = .ok (.iconst 0, 1) := by decide +kernel
theorem dX8_counted_86 : decode cX8_counted 86 = .ok (.istore 5, 2) := by decide +kernel
theorem dX8_counted_88 : decode cX8_counted 88 = .ok (.iload 5, 2) := by decide +kernel
theorem dX8_counted_90 : decode cX8_counted 90 = .ok (.bipush 6, 2) := by decide +kernel
theorem dX8_counted_92 : decode cX8_counted 92 = .ok (.if_icmp .ge 35, 3) := by decide +kernel
theorem dX8_counted_95 : decode cX8_counted 95 = .ok (.iload_n 1, 1) := by decide +kernel
theorem dX8_counted_96 : decode cX8_counted 96 = .ok (.bipush 6, 2) := by decide +kernel
theorem dX8_counted_98 : decode cX8_counted 98 = .ok (.if_icmp .ne 29, 3) := by decide +kernel
theorem dX8_counted_101 : decode cX8_counted 101 = .ok (.iload 4, 2) := by decide +kernel
theorem dX8_counted_103 : decode cX8_counted 103 = .ok (.aload_n 0, 1) := by decide +kernel
theorem dX8_counted_104 : decode cX8_counted 104 = .ok (.getfield 7, 3) := by decide +kernel
theorem dX8_counted_107 : decode cX8_counted 107 = .ok (.iload 5, 2) := by decide +kernel
theorem dX8_counted_109 : decode cX8_counted 109 = .ok (.iaload, 1) := by decide +kernel
theorem dX8_counted_110 : decode cX8_counted 110 = .ok (.ifCond .ge 7, 3) := by decide +kernel
theorem dX8_counted_113 : decode cX8_counted 113 = .ok (.iconst 0, 1) := by decide +kernel
theorem dX8_counted_114 : decode cX8_counted 114 = .ok (.goto 4, 3) := by decide +kernel
theorem dX8_counted_117 : decode cX8_counted 117 = .ok (.iconst 1, 1) := by decide +kernel
theorem dX8_counted_118 : decode cX8_counted 118 = .ok (.iadd, 1) := by decide +kernel
theorem dX8_counted_119 : decode cX8_counted 119 = .ok (.istore 4, 2) := by decide +kernel
theorem dX8_counted_121 : decode cX8_counted 121 = .ok (.iinc 5 1, 3) := by decide +kernel
theorem dX8_counted_124 : decode cX8_counted 124 = .ok (.goto (-36), 3) := by decide +kernel
theorem dX8_counted_127 : decode cX8_counted 127 = .ok (.iconst 0, 1) := by decide +kernel
theorem dX8_counted_128 : decode cX8_counted 128 = .ok (.istore 5, 2) := by decide +kernel
theorem dX8_counted_130 : decode cX8_counted 130 = .ok (.iload 5, 2) := by decide +kernel
theorem dX8_counted_132 : decode cX8_counted 132 = .ok (.iconst 4, 1) := by decide +kernel
theorem dX8_counted_133 : decode cX8_counted 133 = .ok (.if_icmp .ge 35, 3) := by decide +kernel
theorem dX8_counted_136 : decode cX8_counted 136 = .ok (.iload_n 1, 1) := by decide +kernel
theorem dX8_counted_137 : decode cX8_counted 137 = .ok (.bipush 7, 2) := by decide +kernel
theorem dX8_counted_139 : decode cX8_counted 139 = .ok (.if_icmp .ne 29, 3) := by decide +kernel
theorem dX8_counted_142 : decode cX8_counted 142 = .ok (.iload 4, 2) := by decide +kernel
theorem dX8_counted_144 : decode cX8_counted 144 = .ok (.aload_n 0, 1) := by decide +kernel
theorem dX8_counted_145 : decode cX8_counted 145 = .ok (.getfield 16, 3) := by decide +kernel
theorem dX8_counted_148 : decode cX8_counted 148 = .ok (.iload 5, 2) := by decide +kernel
theorem dX8_counted_150 : decode cX8_counted 150 = .ok (.iaload, 1) := by decide +kernel
theorem dX8_counted_151 : decode cX8_counted 151 = .ok (.ifCond .ge 7, 3) := by decide +kernel
theorem dX8_counted_154 : decode cX8_counted 154 = .ok (.iconst 0, 1) := by decide +kernel
theorem dX8_counted_155 : decode cX8_counted 155 = .ok (.goto 4, 3) := by decide +kernel
theorem dX8_counted_158 : decode cX8_counted 158 = .ok (.iconst 1, 1) := by decide +kernel
theorem dX8_counted_159 : decode cX8_counted 159 = .ok (.iadd, 1) := by decide +kernel
theorem dX8_counted_160 : decode cX8_counted 160 = .ok (.istore 4, 2) := by decide +kernel
theorem dX8_counted_162 : decode cX8_counted 162 = .ok (.iinc 5 1, 3) := by decide +kernel
theorem dX8_counted_165 : decode cX8_counted 165 = .ok (.goto (-35), 3) := by decide +kernel
theorem dX8_counted_168 : decode cX8_counted 168 = .ok (.iconst 0, 1) := by decide +kernel
theorem dX8_counted_169 : decode cX8_counted 169 = .ok (.istore 5, 2) := by decide +kernel
theorem dX8_counted_171 : decode cX8_counted 171 = .ok (.iload 5, 2) := by decide +kernel
theorem dX8_counted_173 : decode cX8_counted 173 = .ok (.iconst 3, 1) := by decide +kernel
theorem dX8_counted_174 : decode cX8_counted 174 = .ok (.if_icmp .ge 35, 3) := by decide +kernel
theorem dX8_counted_177 : decode cX8_counted 177 = .ok (.iload_n 1, 1) := by decide +kernel
theorem dX8_counted_178 : decode cX8_counted 178 = .ok (.bipush 8, 2) := by decide +kernel
theorem dX8_counted_180 : decode cX8_counted 180 = .ok (.if_icmp .ne 29, 3) := by decide +kernel
theorem dX8_counted_183 : decode cX8_counted 183 = .ok (.iload 4, 2) := by decide +kernel
theorem dX8_counted_185 : decode cX8_counted 185 = .ok (.aload_n 0, 1) := by decide +kernel
theorem dX8_counted_186 : decode cX8_counted 186 = .ok (.getfield 28, 3) := by decide +kernel
theorem dX8_counted_189 : decode cX8_counted 189 = .ok (.iload 5, 2) := by decide +kernel
theorem dX8_counted_191 : decode cX8_counted 191 = .ok (.baload, 1) := by decide +kernel
theorem dX8_counted_192 : decode cX8_counted 192 = .ok (.ifCond .eq 7, 3) := by decide +kernel
theorem dX8_counted_195 : decode cX8_counted 195 = .ok (.iconst 1, 1) := by decide +kernel
theorem dX8_counted_196 : decode cX8_counted 196 = .ok (.goto 4, 3) := by decide +kernel
theorem dX8_counted_199 : decode cX8_counted 199 = .ok (.iconst 0, 1) := by decide +kernel
theorem dX8_counted_200 : decode cX8_counted 200 = .ok (.iadd, 1) := by decide +kernel
theorem dX8_counted_201 : decode cX8_counted 201 = .ok (.istore 4, 2) := by decide +kernel
theorem dX8_counted_203 : decode cX8_counted 203 = .ok (.iinc 5 1, 3) := by decide +kernel
theorem dX8_counted_206 : decode cX8_counted 206 = .ok (.goto (-35), 3) := by decide +kernel
theorem dX8_counted_209 : decode cX8_counted 209 = .ok (.iload_n 1, 1) := by decide +kernel
theorem dX8_counted_210 : decode cX8_counted 210 = .ok (.tableswitch 76 0 5 #[38, 45, 55, 62, 69, 74], 38) := by decide +kernel
theorem dX8_counted_248 : decode cX8_counted 248 = .ok (.aload_n 0, 1) := by decide +kernel
theorem dX8_counted_249 : decode cX8_counted 249 = .ok (.getfield 22, 3) := by decide +kernel
theorem dX8_counted_252 : decode cX8_counted 252 = .ok (.iconst 0, 1) := by decide +kernel
theorem dX8_counted_253 : decode cX8_counted 253 = .ok (.iaload, 1) := by decide +kernel
theorem dX8_counted_254 : decode cX8_counted 254 = .ok (.ireturn, 1) := by decide +kernel
theorem dX8_counted_255 : decode cX8_counted 255 = .ok (.aload_n 0, 1) := by decide +kernel
theorem dX8_counted_256 : decode cX8_counted 256 = .ok (.getfield 22, 3) := by decide +kernel
theorem dX8_counted_259 : decode cX8_counted 259 = .ok (.iconst 2, 1) := by decide +kernel
theorem dX8_counted_260 : decode cX8_counted 260 = .ok (.iaload, 1) := by decide +kernel
theorem dX8_counted_261 : decode cX8_counted 261 = .ok (.invokestatic 136, 3) := by decide +kernel
theorem dX8_counted_264 : decode cX8_counted 264 = .ok (.ireturn, 1) := by decide +kernel
theorem dX8_counted_265 : decode cX8_counted 265 = .ok (.aload_n 0, 1) := by decide +kernel
theorem dX8_counted_266 : decode cX8_counted 266 = .ok (.getfield 22, 3) := by decide +kernel
theorem dX8_counted_269 : decode cX8_counted 269 = .ok (.iconst 1, 1) := by decide +kernel
theorem dX8_counted_270 : decode cX8_counted 270 = .ok (.iaload, 1) := by decide +kernel
theorem dX8_counted_271 : decode cX8_counted 271 = .ok (.ireturn, 1) := by decide +kernel
theorem dX8_counted_272 : decode cX8_counted 272 = .ok (.aload_n 0, 1) := by decide +kernel
theorem dX8_counted_273 : decode cX8_counted 273 = .ok (.bipush 63, 2) := by decide +kernel
theorem dX8_counted_275 : decode cX8_counted 275 = .ok (.invokevirtual 193, 3) := by decide +kernel
theorem dX8_counted_278 : decode cX8_counted 278 = .ok (.ireturn, 1) := by decide +kernel
theorem dX8_counted_279 : decode cX8_counted 279 = .ok (.iload_n 2, 1) := by decide +kernel
theorem dX8_counted_280 : decode cX8_counted 280 = .ok (.invokestatic 136, 3) := by decide +kernel
theorem dX8_counted_283 : decode cX8_counted 283 = .ok (.ireturn, 1) := by decide +kernel
theorem dX8_counted_284 : decode cX8_counted 284 = .ok (.iload_n 3, 1) := by decide +kernel
theorem dX8_counted_285 : decode cX8_counted 285 = .ok (.ireturn, 1) := by decide +kernel
theorem dX8_counted_286 : decode cX8_counted 286 = .ok (.iload 4, 2) := by decide +kernel
theorem dX8_counted_288 : decode cX8_counted 288 = .ok (.ireturn, 1) := by decide +kernel
set_option maxRecDepth 20000 in
theorem ggX8_count_X8_in : GoodIn wsX8_count wsX8_in := goodIn_r _ [5] (by decide +kernel) (by decide +kernel)
set_option maxRecDepth 20000 in
theorem gX8_count_X8_in : GoodIn wsX8_count (va_wsS RX8 61 yX8_in wsX8_in) := goodIn_app (goodIn_of _ (by decide +kernel)) ggX8_count_X8_in
set_option maxRecDepth 20000 in
theorem ggX8_count_X8_counted : GoodIn wsX8_count wsX8_counted := goodIn_r _ [9, 10, 11, 12, 13, 14, 15, 4, 16, 17, 18, 19, 20, 21, 22, 23, 24, 25, 26, 27, 28, 29, 30, 31, 32, 33, 34, 35, 36, 37, 38, 39, 40, 41, 42, 43, 44, 45, 46, 47, 48, 49, 50, 51, 52, 53, 54, 55, 56, 57, 58, 59] (by decide +kernel) (by decide +kernel)
set_option maxRecDepth 20000 in
theorem gX8_count_X8_counted : GoodIn wsX8_count (wsV RX8 208 RX8 yX8_counted wsX8_counted) := goodIn_app (goodIn_of _ (by decide +kernel)) ggX8_count_X8_counted
theorem dX8_count_0 : decode cX8_count 0 = .ok (.iload_n 1, 1) := by decide +kernel
theorem dX8_count_1 : decode cX8_count 1 = .ok (.i2l, 1) := by decide +kernel
theorem dX8_count_2 : decode cX8_count 2 = .ok (.lconst 0, 1) := by decide +kernel
theorem dX8_count_3 : decode cX8_count 3 = .ok (.ldc2_w 206, 3) := by decide +kernel
theorem dX8_count_6 : decode cX8_count 6 = .ok (.invokestatic 61, 3) := by decide +kernel
theorem dX8_count_9 : decode cX8_count 9 = .ok (.ifCond .eq 11, 3) := by decide +kernel
theorem dX8_count_12 : decode cX8_count 12 = .ok (.aload_n 0, 1) := by decide +kernel
theorem dX8_count_13 : decode cX8_count 13 = .ok (.iload_n 1, 1) := by decide +kernel
theorem dX8_count_14 : decode cX8_count 14 = .ok (.invokevirtual 208, 3) := by decide +kernel
theorem dX8_count_17 : decode cX8_count 17 = .ok (.goto 4, 3) := by decide +kernel
theorem dX8_count_20 : decode cX8_count 20 = .ok (.iconst (-1), 1) := by decide +kernel
theorem dX8_count_21 : decode cX8_count 21 = .ok (.ireturn, 1) := by decide +kernel
theorem dX8_finding_0 : decode cX8_finding 0 = .ok (.aload_n 0, 1) := by decide +kernel
theorem dX8_finding_1 : decode cX8_finding 1 = .ok (.getfield 52, 3) := by decide +kernel
theorem dX8_finding_4 : decode cX8_finding 4 = .ok (.ireturn, 1) := by decide +kernel
set_option maxRecDepth 20000 in
theorem ggX8_findings_X8_in : GoodIn wsX8_findings wsX8_in := goodIn_r _ [6] (by decide +kernel) (by decide +kernel)
set_option maxRecDepth 20000 in
theorem gX8_findings_X8_in : GoodIn wsX8_findings (va_wsS RX8 61 yX8_in wsX8_in) := goodIn_app (goodIn_of _ (by decide +kernel)) ggX8_findings_X8_in
theorem dX8_findings_0 : decode cX8_findings 0 = .ok (.iload_n 1, 1) := by decide +kernel
theorem dX8_findings_1 : decode cX8_findings 1 = .ok (.i2l, 1) := by decide +kernel
theorem dX8_findings_2 : decode cX8_findings 2 = .ok (.lconst 1, 1) := by decide +kernel
theorem dX8_findings_3 : decode cX8_findings 3 = .ok (.ldc2_w 59, 3) := by decide +kernel
theorem dX8_findings_6 : decode cX8_findings 6 = .ok (.invokestatic 61, 3) := by decide +kernel
theorem dX8_findings_9 : decode cX8_findings 9 = .ok (.ifCond .eq 12, 3) := by decide +kernel
theorem dX8_findings_12 : decode cX8_findings 12 = .ok (.aload_n 0, 1) := by decide +kernel
theorem dX8_findings_13 : decode cX8_findings 13 = .ok (.getfield 36, 3) := by decide +kernel
theorem dX8_findings_16 : decode cX8_findings 16 = .ok (.iload_n 1, 1) := by decide +kernel
theorem dX8_findings_17 : decode cX8_findings 17 = .ok (.iaload, 1) := by decide +kernel
theorem dX8_findings_18 : decode cX8_findings 18 = .ok (.goto 4, 3) := by decide +kernel
theorem dX8_findings_21 : decode cX8_findings 21 = .ok (.iconst (-1), 1) := by decide +kernel
theorem dX8_findings_22 : decode cX8_findings 22 = .ok (.ireturn, 1) := by decide +kernel
set_option maxRecDepth 20000 in
theorem ggX8_digest_X8_counted : GoodIn wsX8_digest wsX8_counted := goodIn_r _ [14, 3, 6, 8, 4, 15, 16, 13, 17, 18, 19, 20, 21, 22, 23, 24, 25, 26, 27, 28, 29, 30, 31, 32, 33, 34, 35, 36, 37, 38, 39, 40, 41, 42, 43, 48, 49, 50, 51, 52, 53, 54, 55, 56, 57, 58, 59, 60, 61, 62, 63, 64] (by decide +kernel) (by decide +kernel)
set_option maxRecDepth 20000 in
theorem gX8_digest_X8_counted : GoodIn wsX8_digest (wsV RX8 208 RX8 yX8_counted wsX8_counted) := goodIn_app (goodIn_of _ (by decide +kernel)) ggX8_digest_X8_counted
set_option maxRecDepth 20000 in
theorem ggX8_digest_X8_told : GoodIn wsX8_digest wsX8_told := goodIn_r _ [47, 3, 32, 33, 34, 13, 35, 36, 37, 38, 39, 25, 26, 27, 40, 41, 42, 43, 48, 49, 50, 51, 52, 53, 54, 55, 56, 57, 58, 59, 60, 61, 62, 63, 64] (by decide +kernel) (by decide +kernel)
set_option maxRecDepth 20000 in
theorem gX8_digest_X8_told : GoodIn wsX8_digest (wsV RX8 127 RX8 yX8_told wsX8_told) := goodIn_app (goodIn_of _ (by decide +kernel)) ggX8_digest_X8_told
theorem dX8_digest_0 : decode cX8_digest 0 = .ok (.ldc2_w 211, 3) := by decide +kernel
theorem dX8_digest_3 : decode cX8_digest 3 = .ok (.lstore_n 1, 1) := by decide +kernel
theorem dX8_digest_4 : decode cX8_digest 4 = .ok (.iconst 0, 1) := by decide +kernel
theorem dX8_digest_5 : decode cX8_digest 5 = .ok (.istore_n 3, 1) := by decide +kernel
theorem dX8_digest_6 : decode cX8_digest 6 = .ok (.iload_n 3, 1) := by decide +kernel
theorem dX8_digest_7 : decode cX8_digest 7 = .ok (.bipush 9, 2) := by decide +kernel
theorem dX8_digest_9 : decode cX8_digest 9 = .ok (.if_icmp .ge 22, 3) := by decide +kernel
theorem dX8_digest_12 : decode cX8_digest 12 = .ok (.ldc2_w 213, 3) := by decide +kernel
theorem dX8_digest_15 : decode cX8_digest 15 = .ok (.lload_n 1, 1) := by decide +kernel
theorem dX8_digest_16 : decode cX8_digest 16 = .ok (.lmul, 1) := by decide +kernel
theorem dX8_digest_17 : decode cX8_digest 17 = .ok (.aload_n 0, 1) := by decide +kernel
theorem dX8_digest_18 : decode cX8_digest 18 = .ok (.iload_n 3, 1) := by decide +kernel
theorem dX8_digest_19 : decode cX8_digest 19 = .ok (.invokevirtual 208, 3) := by decide +kernel
theorem dX8_digest_22 : decode cX8_digest 22 = .ok (.i2l, 1) := by decide +kernel
theorem dX8_digest_23 : decode cX8_digest 23 = .ok (.ladd, 1) := by decide +kernel
theorem dX8_digest_24 : decode cX8_digest 24 = .ok (.lstore_n 1, 1) := by decide +kernel
theorem dX8_digest_25 : decode cX8_digest 25 = .ok (.iinc 3 1, 3) := by decide +kernel
theorem dX8_digest_28 : decode cX8_digest 28 = .ok (.goto (-22), 3) := by decide +kernel
theorem dX8_digest_31 : decode cX8_digest 31 = .ok (.iconst 0, 1) := by decide +kernel
theorem dX8_digest_32 : decode cX8_digest 32 = .ok (.istore_n 3, 1) := by decide +kernel
theorem dX8_digest_33 : decode cX8_digest 33 = .ok (.iload_n 3, 1) := by decide +kernel
theorem dX8_digest_34 : decode cX8_digest 34 = .ok (.aload_n 0, 1) := by decide +kernel
theorem dX8_digest_35 : decode cX8_digest 35 = .ok (.getfield 22, 3) := by decide +kernel
theorem dX8_digest_38 : decode cX8_digest 38 = .ok (.iconst 0, 1) := by decide +kernel
theorem dX8_digest_39 : decode cX8_digest 39 = .ok (.iaload, 1) := by decide +kernel
theorem dX8_digest_40 : decode cX8_digest 40 = .ok (.if_icmp .ge 40, 3) := by decide +kernel
theorem dX8_digest_43 : decode cX8_digest 43 = .ok (.iconst 0, 1) := by decide +kernel
theorem dX8_digest_44 : decode cX8_digest 44 = .ok (.istore 4, 2) := by decide +kernel
theorem dX8_digest_46 : decode cX8_digest 46 = .ok (.iload 4, 2) := by decide +kernel
theorem dX8_digest_48 : decode cX8_digest 48 = .ok (.bipush 8, 2) := by decide +kernel
theorem dX8_digest_50 : decode cX8_digest 50 = .ok (.if_icmp .ge 24, 3) := by decide +kernel
theorem dX8_digest_53 : decode cX8_digest 53 = .ok (.ldc2_w 213, 3) := by decide +kernel
theorem dX8_digest_56 : decode cX8_digest 56 = .ok (.lload_n 1, 1) := by decide +kernel
theorem dX8_digest_57 : decode cX8_digest 57 = .ok (.lmul, 1) := by decide +kernel
theorem dX8_digest_58 : decode cX8_digest 58 = .ok (.aload_n 0, 1) := by decide +kernel
theorem dX8_digest_59 : decode cX8_digest 59 = .ok (.iload_n 3, 1) := by decide +kernel
theorem dX8_digest_60 : decode cX8_digest 60 = .ok (.iload 4, 2) := by decide +kernel
theorem dX8_digest_62 : decode cX8_digest 62 = .ok (.invokevirtual 127, 3) := by decide +kernel
theorem dX8_digest_65 : decode cX8_digest 65 = .ok (.i2l, 1) := by decide +kernel
theorem dX8_digest_66 : decode cX8_digest 66 = .ok (.ladd, 1) := by decide +kernel
theorem dX8_digest_67 : decode cX8_digest 67 = .ok (.lstore_n 1, 1) := by decide +kernel
theorem dX8_digest_68 : decode cX8_digest 68 = .ok (.iinc 4 1, 3) := by decide +kernel
theorem dX8_digest_71 : decode cX8_digest 71 = .ok (.goto (-25), 3) := by decide +kernel
theorem dX8_digest_74 : decode cX8_digest 74 = .ok (.iinc 3 1, 3) := by decide +kernel
theorem dX8_digest_77 : decode cX8_digest 77 = .ok (.goto (-44), 3) := by decide +kernel
theorem dX8_digest_80 : decode cX8_digest 80 = .ok (.iconst 0, 1) := by decide +kernel
theorem dX8_digest_81 : decode cX8_digest 81 = .ok (.istore_n 3, 1) := by decide +kernel
theorem dX8_digest_82 : decode cX8_digest 82 = .ok (.iload_n 3, 1) := by decide +kernel
theorem dX8_digest_83 : decode cX8_digest 83 = .ok (.iconst 3, 1) := by decide +kernel
theorem dX8_digest_84 : decode cX8_digest 84 = .ok (.if_icmp .ge 41, 3) := by decide +kernel
theorem dX8_digest_87 : decode cX8_digest 87 = .ok (.ldc2_w 213, 3) := by decide +kernel
theorem dX8_digest_90 : decode cX8_digest 90 = .ok (.lload_n 1, 1) := by decide +kernel
theorem dX8_digest_91 : decode cX8_digest 91 = .ok (.lmul, 1) := by decide +kernel
theorem dX8_digest_92 : decode cX8_digest 92 = .ok (.aload_n 0, 1) := by decide +kernel
theorem dX8_digest_93 : decode cX8_digest 93 = .ok (.getfield 28, 3) := by decide +kernel
theorem dX8_digest_96 : decode cX8_digest 96 = .ok (.iload_n 3, 1) := by decide +kernel
theorem dX8_digest_97 : decode cX8_digest 97 = .ok (.baload, 1) := by decide +kernel
theorem dX8_digest_98 : decode cX8_digest 98 = .ok (.ifCond .eq 17, 3) := by decide +kernel
theorem dX8_digest_101 : decode cX8_digest 101 = .ok (.aload_n 0, 1) := by decide +kernel
theorem dX8_digest_102 : decode cX8_digest 102 = .ok (.getfield 25, 3) := by decide +kernel
theorem dX8_digest_105 : decode cX8_digest 105 = .ok (.bipush 115, 2) := by decide +kernel
theorem dX8_digest_107 : decode cX8_digest 107 = .ok (.iload_n 3, 1) := by decide +kernel
theorem dX8_digest_108 : decode cX8_digest 108 = .ok (.imul, 1) := by decide +kernel
theorem dX8_digest_109 : decode cX8_digest 109 = .ok (.iconst 1, 1) := by decide +kernel
theorem dX8_digest_110 : decode cX8_digest 110 = .ok (.iadd, 1) := by decide +kernel
theorem dX8_digest_111 : decode cX8_digest 111 = .ok (.iaload, 1) := by decide +kernel
theorem dX8_digest_112 : decode cX8_digest 112 = .ok (.goto 4, 3) := by decide +kernel
theorem dX8_digest_115 : decode cX8_digest 115 = .ok (.iconst (-1), 1) := by decide +kernel
theorem dX8_digest_116 : decode cX8_digest 116 = .ok (.i2l, 1) := by decide +kernel
theorem dX8_digest_117 : decode cX8_digest 117 = .ok (.ladd, 1) := by decide +kernel
theorem dX8_digest_118 : decode cX8_digest 118 = .ok (.lstore_n 1, 1) := by decide +kernel
theorem dX8_digest_119 : decode cX8_digest 119 = .ok (.iinc 3 1, 3) := by decide +kernel
theorem dX8_digest_122 : decode cX8_digest 122 = .ok (.goto (-40), 3) := by decide +kernel
theorem dX8_digest_125 : decode cX8_digest 125 = .ok (.iconst 0, 1) := by decide +kernel
theorem dX8_digest_126 : decode cX8_digest 126 = .ok (.istore_n 3, 1) := by decide +kernel
theorem dX8_digest_127 : decode cX8_digest 127 = .ok (.iload_n 3, 1) := by decide +kernel
theorem dX8_digest_128 : decode cX8_digest 128 = .ok (.bipush 6, 2) := by decide +kernel
theorem dX8_digest_130 : decode cX8_digest 130 = .ok (.if_icmp .ge 63, 3) := by decide +kernel
theorem dX8_digest_133 : decode cX8_digest 133 = .ok (.ldc2_w 213, 3) := by decide +kernel
theorem dX8_digest_136 : decode cX8_digest 136 = .ok (.lload_n 1, 1) := by decide +kernel
theorem dX8_digest_137 : decode cX8_digest 137 = .ok (.lmul, 1) := by decide +kernel
theorem dX8_digest_138 : decode cX8_digest 138 = .ok (.aload_n 0, 1) := by decide +kernel
theorem dX8_digest_139 : decode cX8_digest 139 = .ok (.getfield 7, 3) := by decide +kernel
theorem dX8_digest_142 : decode cX8_digest 142 = .ok (.iload_n 3, 1) := by decide +kernel
theorem dX8_digest_143 : decode cX8_digest 143 = .ok (.iaload, 1) := by decide +kernel
theorem dX8_digest_144 : decode cX8_digest 144 = .ok (.i2l, 1) := by decide +kernel
theorem dX8_digest_145 : decode cX8_digest 145 = .ok (.ladd, 1) := by decide +kernel
theorem dX8_digest_146 : decode cX8_digest 146 = .ok (.lstore_n 1, 1) := by decide +kernel
theorem dX8_digest_147 : decode cX8_digest 147 = .ok (.iconst 0, 1) := by decide +kernel
theorem dX8_digest_148 : decode cX8_digest 148 = .ok (.istore 4, 2) := by decide +kernel
theorem dX8_digest_150 : decode cX8_digest 150 = .ok (.iload 4, 2) := by decide +kernel
theorem dX8_digest_152 : decode cX8_digest 152 = .ok (.aload_n 0, 1) := by decide +kernel
theorem dX8_digest_153 : decode cX8_digest 153 = .ok (.getfield 7, 3) := by decide +kernel
theorem dX8_digest_156 : decode cX8_digest 156 = .ok (.iload_n 3, 1) := by decide +kernel
theorem dX8_digest_157 : decode cX8_digest 157 = .ok (.iaload, 1) := by decide +kernel
theorem dX8_digest_158 : decode cX8_digest 158 = .ok (.if_icmp .ge 29, 3) := by decide +kernel
theorem dX8_digest_161 : decode cX8_digest 161 = .ok (.ldc2_w 213, 3) := by decide +kernel
theorem dX8_digest_164 : decode cX8_digest 164 = .ok (.lload_n 1, 1) := by decide +kernel
theorem dX8_digest_165 : decode cX8_digest 165 = .ok (.lmul, 1) := by decide +kernel
theorem dX8_digest_166 : decode cX8_digest 166 = .ok (.aload_n 0, 1) := by decide +kernel
theorem dX8_digest_167 : decode cX8_digest 167 = .ok (.getfield 13, 3) := by decide +kernel
theorem dX8_digest_170 : decode cX8_digest 170 = .ok (.bipush 40, 2) := by decide +kernel
theorem dX8_digest_172 : decode cX8_digest 172 = .ok (.iload_n 3, 1) := by decide +kernel
theorem dX8_digest_173 : decode cX8_digest 173 = .ok (.imul, 1) := by decide +kernel
theorem dX8_digest_174 : decode cX8_digest 174 = .ok (.iload 4, 2) := by decide +kernel
theorem dX8_digest_176 : decode cX8_digest 176 = .ok (.iadd, 1) := by decide +kernel
theorem dX8_digest_177 : decode cX8_digest 177 = .ok (.iaload, 1) := by decide +kernel
theorem dX8_digest_178 : decode cX8_digest 178 = .ok (.i2l, 1) := by decide +kernel
theorem dX8_digest_179 : decode cX8_digest 179 = .ok (.ladd, 1) := by decide +kernel
theorem dX8_digest_180 : decode cX8_digest 180 = .ok (.lstore_n 1, 1) := by decide +kernel
theorem dX8_digest_181 : decode cX8_digest 181 = .ok (.iinc 4 1, 3) := by decide +kernel
theorem dX8_digest_184 : decode cX8_digest 184 = .ok (.goto (-34), 3) := by decide +kernel
theorem dX8_digest_187 : decode cX8_digest 187 = .ok (.iinc 3 1, 3) := by decide +kernel
theorem dX8_digest_190 : decode cX8_digest 190 = .ok (.goto (-63), 3) := by decide +kernel
theorem dX8_digest_193 : decode cX8_digest 193 = .ok (.iconst 0, 1) := by decide +kernel
theorem dX8_digest_194 : decode cX8_digest 194 = .ok (.istore_n 3, 1) := by decide +kernel
theorem dX8_digest_195 : decode cX8_digest 195 = .ok (.iload_n 3, 1) := by decide +kernel
theorem dX8_digest_196 : decode cX8_digest 196 = .ok (.iconst 4, 1) := by decide +kernel
theorem dX8_digest_197 : decode cX8_digest 197 = .ok (.if_icmp .ge 63, 3) := by decide +kernel
theorem dX8_digest_200 : decode cX8_digest 200 = .ok (.ldc2_w 213, 3) := by decide +kernel
theorem dX8_digest_203 : decode cX8_digest 203 = .ok (.lload_n 1, 1) := by decide +kernel
theorem dX8_digest_204 : decode cX8_digest 204 = .ok (.lmul, 1) := by decide +kernel
theorem dX8_digest_205 : decode cX8_digest 205 = .ok (.aload_n 0, 1) := by decide +kernel
theorem dX8_digest_206 : decode cX8_digest 206 = .ok (.getfield 16, 3) := by decide +kernel
theorem dX8_digest_209 : decode cX8_digest 209 = .ok (.iload_n 3, 1) := by decide +kernel
theorem dX8_digest_210 : decode cX8_digest 210 = .ok (.iaload, 1) := by decide +kernel
theorem dX8_digest_211 : decode cX8_digest 211 = .ok (.i2l, 1) := by decide +kernel
theorem dX8_digest_212 : decode cX8_digest 212 = .ok (.ladd, 1) := by decide +kernel
theorem dX8_digest_213 : decode cX8_digest 213 = .ok (.lstore_n 1, 1) := by decide +kernel
theorem dX8_digest_214 : decode cX8_digest 214 = .ok (.iconst 0, 1) := by decide +kernel
theorem dX8_digest_215 : decode cX8_digest 215 = .ok (.istore 4, 2) := by decide +kernel
theorem dX8_digest_217 : decode cX8_digest 217 = .ok (.iload 4, 2) := by decide +kernel
theorem dX8_digest_219 : decode cX8_digest 219 = .ok (.aload_n 0, 1) := by decide +kernel
theorem dX8_digest_220 : decode cX8_digest 220 = .ok (.getfield 16, 3) := by decide +kernel
theorem dX8_digest_223 : decode cX8_digest 223 = .ok (.iload_n 3, 1) := by decide +kernel
theorem dX8_digest_224 : decode cX8_digest 224 = .ok (.iaload, 1) := by decide +kernel
theorem dX8_digest_225 : decode cX8_digest 225 = .ok (.if_icmp .ge 29, 3) := by decide +kernel
theorem dX8_digest_228 : decode cX8_digest 228 = .ok (.ldc2_w 213, 3) := by decide +kernel
theorem dX8_digest_231 : decode cX8_digest 231 = .ok (.lload_n 1, 1) := by decide +kernel
theorem dX8_digest_232 : decode cX8_digest 232 = .ok (.lmul, 1) := by decide +kernel
theorem dX8_digest_233 : decode cX8_digest 233 = .ok (.aload_n 0, 1) := by decide +kernel
theorem dX8_digest_234 : decode cX8_digest 234 = .ok (.getfield 19, 3) := by decide +kernel
theorem dX8_digest_237 : decode cX8_digest 237 = .ok (.bipush 80, 2) := by decide +kernel
theorem dX8_digest_239 : decode cX8_digest 239 = .ok (.iload_n 3, 1) := by decide +kernel
theorem dX8_digest_240 : decode cX8_digest 240 = .ok (.imul, 1) := by decide +kernel
theorem dX8_digest_241 : decode cX8_digest 241 = .ok (.iload 4, 2) := by decide +kernel
theorem dX8_digest_243 : decode cX8_digest 243 = .ok (.iadd, 1) := by decide +kernel
theorem dX8_digest_244 : decode cX8_digest 244 = .ok (.iaload, 1) := by decide +kernel
theorem dX8_digest_245 : decode cX8_digest 245 = .ok (.i2l, 1) := by decide +kernel
theorem dX8_digest_246 : decode cX8_digest 246 = .ok (.ladd, 1) := by decide +kernel
theorem dX8_digest_247 : decode cX8_digest 247 = .ok (.lstore_n 1, 1) := by decide +kernel
theorem dX8_digest_248 : decode cX8_digest 248 = .ok (.iinc 4 1, 3) := by decide +kernel
theorem dX8_digest_251 : decode cX8_digest 251 = .ok (.goto (-34), 3) := by decide +kernel
theorem dX8_digest_254 : decode cX8_digest 254 = .ok (.iinc 3 1, 3) := by decide +kernel
theorem dX8_digest_257 : decode cX8_digest 257 = .ok (.goto (-62), 3) := by decide +kernel
theorem dX8_digest_260 : decode cX8_digest 260 = .ok (.lload_n 1, 1) := by decide +kernel
theorem dX8_digest_261 : decode cX8_digest 261 = .ok (.lreturn, 1) := by decide +kernel
