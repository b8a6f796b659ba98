set_option maxRecDepth 20000 in
theorem ggX7_init_X5_init : GoodIn wsX7_init wsX5_init := goodIn_r _ [34, 35, 2, 3, 36, 37, 38, 39, 40, 41, 42, 43, 77, 78, 79] (by decide +kernel) (by decide +kernel)
set_option maxRecDepth 20000 in
theorem gX7_init_X5_init : GoodIn wsX7_init (wsX5_init) := ggX7_init_X5_init
set_option maxRecDepth 20000 in
theorem ggX7_init_X1_init : GoodIn wsX7_init wsX1_init := goodIn_r _ [45, 46, 2, 3, 37, 47, 48, 49, 50, 51, 52, 53, 54, 55, 56, 90, 91, 92, 93, 94, 95, 96, 97, 98, 99] (by decide +kernel) (by decide +kernel)
set_option maxRecDepth 20000 in
theorem gX7_init_X1_init_n23 : GoodIn wsX7_init (wsX1_init) := ggX7_init_X1_init
set_option maxRecDepth 20000 in
theorem ggX7_init_X2_init : GoodIn wsX7_init wsX2_init := goodIn_r _ [58, 59, 2, 3, 37, 60, 61, 62, 100, 101, 102] (by decide +kernel) (by decide +kernel)
set_option maxRecDepth 20000 in
theorem gX7_init_X2_init_n37 : GoodIn wsX7_init (wsX2_init) := ggX7_init_X2_init
set_option maxRecDepth 20000 in
theorem ggX7_init_X0_init : GoodIn wsX7_init wsX0_init := goodIn_r _ [64, 65, 2, 3, 37, 66, 103] (by decide +kernel) (by decide +kernel)
set_option maxRecDepth 20000 in
theorem gX7_init_X0_init_n44 : GoodIn wsX7_init (wsX0_init) := ggX7_init_X0_init
set_option maxRecDepth 20000 in
theorem ggX7_init_X4_init : GoodIn wsX7_init wsX4_init := goodIn_r _ [68, 69, 2, 3, 70, 71, 104, 105] (by decide +kernel) (by decide +kernel)
set_option maxRecDepth 20000 in
theorem gX7_init_X4_init_n51 : GoodIn wsX7_init (wsX4_init) := ggX7_init_X4_init
set_option maxRecDepth 20000 in
theorem ggX7_init_X6_init : GoodIn wsX7_init wsX6_init := goodIn_r _ [73, 74, 2, 3, 37, 75, 76, 106, 107] (by decide +kernel) (by decide +kernel)
set_option maxRecDepth 20000 in
theorem gX7_init_X6_init_n58 : GoodIn wsX7_init (wsX6_init) := ggX7_init_X6_init
theorem dX7_init_0 : decode cX7_init 0 = .ok (.aload_n 0, 1) := by decide +kernel
theorem dX7_init_1 : decode cX7_init 1 = .ok (.invokespecial 1, 3) := by decide +kernel
theorem dX7_init_4 : decode cX7_init 4 = .ok (.aload_n 0, 1) := by decide +kernel
theorem dX7_init_5 : decode cX7_init 5 = .ok (.new 7, 3) := by decide +kernel
theorem dX7_init_8 : decode cX7_init 8 = .ok (.dup, 1) := by decide +kernel
theorem dX7_init_9 : decode cX7_init 9 = .ok (.bipush 6, 2) := by decide +kernel
theorem dX7_init_11 : decode cX7_init 11 = .ok (.bipush 40, 2) := by decide +kernel
theorem dX7_init_13 : decode cX7_init 13 = .ok (.invokespecial 11, 3) := by decide +kernel
theorem dX7_init_16 : decode cX7_init 16 = .ok (.putfield 14, 3) := by decide +kernel
theorem dX7_init_19 : decode cX7_init 19 = .ok (.aload_n 0, 1) := by decide +kernel
theorem dX7_init_20 : decode cX7_init 20 = .ok (.new 7, 3) := by decide +kernel
theorem dX7_init_23 : decode cX7_init 23 = .ok (.dup, 1) := by decide +kernel
theorem dX7_init_24 : decode cX7_init 24 = .ok (.iconst 4, 1) := by decide +kernel
theorem dX7_init_25 : decode cX7_init 25 = .ok (.bipush 80, 2) := by decide +kernel
theorem dX7_init_27 : decode cX7_init 27 = .ok (.invokespecial 11, 3) := by decide +kernel
theorem dX7_init_30 : decode cX7_init 30 = .ok (.putfield 18, 3) := by decide +kernel
theorem dX7_init_33 : decode cX7_init 33 = .ok (.aload_n 0, 1) := by decide +kernel
theorem dX7_init_34 : decode cX7_init 34 = .ok (.new 21, 3) := by decide +kernel
theorem dX7_init_37 : decode cX7_init 37 = .ok (.dup, 1) := by decide +kernel
theorem dX7_init_38 : decode cX7_init 38 = .ok (.invokespecial 23, 3) := by decide +kernel
theorem dX7_init_41 : decode cX7_init 41 = .ok (.putfield 24, 3) := by decide +kernel
theorem dX7_init_44 : decode cX7_init 44 = .ok (.aload_n 0, 1) := by decide +kernel
theorem dX7_init_45 : decode cX7_init 45 = .ok (.new 21, 3) := by decide +kernel
theorem dX7_init_48 : decode cX7_init 48 = .ok (.dup, 1) := by decide +kernel
theorem dX7_init_49 : decode cX7_init 49 = .ok (.invokespecial 23, 3) := by decide +kernel
theorem dX7_init_52 : decode cX7_init 52 = .ok (.putfield 28, 3) := by decide +kernel
theorem dX7_init_55 : decode cX7_init 55 = .ok (.aload_n 0, 1) := by decide +kernel
theorem dX7_init_56 : decode cX7_init 56 = .ok (.iconst 3, 1) := by decide +kernel
theorem dX7_init_57 : decode cX7_init 57 = .ok (.anewarray 21, 3) := by decide +kernel
theorem dX7_init_60 : decode cX7_init 60 = .ok (.putfield 31, 3) := by decide +kernel
theorem dX7_init_63 : decode cX7_init 63 = .ok (.aload_n 0, 1) := by decide +kernel
theorem dX7_init_64 : decode cX7_init 64 = .ok (.new 35, 3) := by decide +kernel
theorem dX7_init_67 : decode cX7_init 67 = .ok (.dup, 1) := by decide +kernel
theorem dX7_init_68 : decode cX7_init 68 = .ok (.invokespecial 37, 3) := by decide +kernel
theorem dX7_init_71 : decode cX7_init 71 = .ok (.putfield 38, 3) := by decide +kernel
theorem dX7_init_74 : decode cX7_init 74 = .ok (.aload_n 0, 1) := by decide +kernel
theorem dX7_init_75 : decode cX7_init 75 = .ok (.new 42, 3) := by decide +kernel
theorem dX7_init_78 : decode cX7_init 78 = .ok (.dup, 1) := by decide +kernel
theorem dX7_init_79 : decode cX7_init 79 = .ok (.invokespecial 44, 3) := by decide +kernel
theorem dX7_init_82 : decode cX7_init 82 = .ok (.putfield 45, 3) := by decide +kernel
theorem dX7_init_85 : decode cX7_init 85 = .ok (.aload_n 0, 1) := by decide +kernel
theorem dX7_init_86 : decode cX7_init 86 = .ok (.new 49, 3) := by decide +kernel
theorem dX7_init_89 : decode cX7_init 89 = .ok (.dup, 1) := by decide +kernel
theorem dX7_init_90 : decode cX7_init 90 = .ok (.invokespecial 51, 3) := by decide +kernel
theorem dX7_init_93 : decode cX7_init 93 = .ok (.putfield 52, 3) := by decide +kernel
theorem dX7_init_96 : decode cX7_init 96 = .ok (.aload_n 0, 1) := by decide +kernel
theorem dX7_init_97 : decode cX7_init 97 = .ok (.new 56, 3) := by decide +kernel
theorem dX7_init_100 : decode cX7_init 100 = .ok (.dup, 1) := by decide +kernel
theorem dX7_init_101 : decode cX7_init 101 = .ok (.invokespecial 58, 3) := by decide +kernel
theorem dX7_init_104 : decode cX7_init 104 = .ok (.putfield 59, 3) := by decide +kernel
theorem dX7_init_107 : decode cX7_init 107 = .ok (.aload_n 0, 1) := by decide +kernel
theorem dX7_init_108 : decode cX7_init 108 = .ok (.iconst 0, 1) := by decide +kernel
theorem dX7_init_109 : decode cX7_init 109 = .ok (.putfield 63, 3) := by decide +kernel
theorem dX7_init_112 : decode cX7_init 112 = .ok (.return_, 1) := by decide +kernel
set_option maxRecDepth 20000 in
theorem ggX7_row_X5_hasNumber : GoodIn wsX7_row wsX5_hasNumber := goodIn_r _ [7, 8, 39, 40, 41] (by decide +kernel) (by decide +kernel)
set_option maxRecDepth 20000 in
theorem gX7_row_X5_hasNumber : GoodIn wsX7_row (wsV RX7 67 RX5 yX5_hasNumber wsX5_hasNumber) := goodIn_app (goodIn_of _ (by decide +kernel)) ggX7_row_X5_hasNumber
set_option maxRecDepth 20000 in
theorem ggX7_row_X6_note : GoodIn wsX7_row wsX6_note := goodIn_r _ [13, 14, 15, 42, 43] (by decide +kernel) (by decide +kernel)
set_option maxRecDepth 20000 in
theorem gX7_row_X6_note : GoodIn wsX7_row (wsV RX7 71 RX6 yX6_note wsX6_note) := goodIn_app (goodIn_of _ (by decide +kernel)) ggX7_row_X6_note
set_option maxRecDepth 20000 in
theorem ggX7_row_X5_makeAnew : GoodIn wsX7_row wsX5_makeAnew := goodIn_r _ [19, 8, 20, 21, 22, 23, 24, 25, 26, 27, 28, 39, 40, 41] (by decide +kernel) (by decide +kernel)
set_option maxRecDepth 20000 in
theorem gX7_row_X5_makeAnew : GoodIn wsX7_row (wsV RX7 75 RX5 yX5_makeAnew wsX5_makeAnew) := goodIn_app (goodIn_of _ (by decide +kernel)) ggX7_row_X5_makeAnew
theorem dX7_row_0 : decode cX7_row 0 = .ok (.aload_n 0, 1) := by decide +kernel
theorem dX7_row_1 : decode cX7_row 1 = .ok (.getfield 14, 3) := by decide +kernel
theorem dX7_row_4 : decode cX7_row 4 = .ok (.iload_n 1, 1) := by decide +kernel
theorem dX7_row_5 : decode cX7_row 5 = .ok (.invokevirtual 67, 3) := by decide +kernel
theorem dX7_row_8 : decode cX7_row 8 = .ok (.ifCond .eq 9, 3) := by decide +kernel
theorem dX7_row_11 : decode cX7_row 11 = .ok (.iload_n 2, 1) := by decide +kernel
theorem dX7_row_12 : decode cX7_row 12 = .ok (.bipush 40, 2) := by decide +kernel
theorem dX7_row_14 : decode cX7_row 14 = .ok (.if_icmp .le 5, 3) := by decide +kernel
theorem dX7_row_17 : decode cX7_row 17 = .ok (.iconst (-1), 1) := by decide +kernel
theorem dX7_row_18 : decode cX7_row 18 = .ok (.ireturn, 1) := by decide +kernel
theorem dX7_row_19 : decode cX7_row 19 = .ok (.iload_n 2, 1) := by decide +kernel
theorem dX7_row_20 : decode cX7_row 20 = .ok (.ifCond .ge 12, 3) := by decide +kernel
theorem dX7_row_23 : decode cX7_row 23 = .ok (.aload_n 0, 1) := by decide +kernel
theorem dX7_row_24 : decode cX7_row 24 = .ok (.getfield 59, 3) := by decide +kernel
theorem dX7_row_27 : decode cX7_row 27 = .ok (.iconst 5, 1) := by decide +kernel
theorem dX7_row_28 : decode cX7_row 28 = .ok (.invokevirtual 71, 3) := by decide +kernel
theorem dX7_row_31 : decode cX7_row 31 = .ok (.ireturn, 1) := by decide +kernel
theorem dX7_row_32 : decode cX7_row 32 = .ok (.aload_n 0, 1) := by decide +kernel
theorem dX7_row_33 : decode cX7_row 33 = .ok (.getfield 14, 3) := by decide +kernel
theorem dX7_row_36 : decode cX7_row 36 = .ok (.iload_n 1, 1) := by decide +kernel
theorem dX7_row_37 : decode cX7_row 37 = .ok (.iload_n 2, 1) := by decide +kernel
theorem dX7_row_38 : decode cX7_row 38 = .ok (.iconst 0, 1) := by decide +kernel
theorem dX7_row_39 : decode cX7_row 39 = .ok (.invokevirtual 75, 3) := by decide +kernel
theorem dX7_row_42 : decode cX7_row 42 = .ok (.iload_n 2, 1) := by decide +kernel
theorem dX7_row_43 : decode cX7_row 43 = .ok (.ireturn, 1) := by decide +kernel
set_option maxRecDepth 20000 in
theorem ggX7_lay_X7_refusalOfPlace : GoodIn wsX7_lay wsX7_refusalOfPlace := goodIn_r _ [7, 8, 9, 10, 11, 6, 12, 13, 14, 15, 16, 17, 18, 19, 20, 21, 22, 23, 24, 25, 26, 27, 28, 29, 30, 31, 32, 33, 44, 45, 46, 47, 48, 49, 50, 51, 52, 53, 54, 55, 56, 57, 58] (by decide +kernel) (by decide +kernel)
set_option maxRecDepth 20000 in
theorem gX7_lay_X7_refusalOfPlace : GoodIn wsX7_lay (wsV RX7 79 RX7 yX7_refusalOfPlace wsX7_refusalOfPlace) := goodIn_app (goodIn_of _ (by decide +kernel)) ggX7_lay_X7_refusalOfPlace
set_option maxRecDepth 20000 in
theorem ggX7_lay_X5_cell : GoodIn wsX7_lay wsX5_cell := goodIn_r _ [37, 38, 39, 54, 55, 56] (by decide +kernel) (by decide +kernel)
set_option maxRecDepth 20000 in
theorem gX7_lay_X5_cell : GoodIn wsX7_lay (wsV RX7 83 RX5 yX5_cell wsX5_cell) := goodIn_app (goodIn_of _ (by decide +kernel)) ggX7_lay_X5_cell
set_option maxRecDepth 20000 in
theorem ggX7_lay_X5_setCell : GoodIn wsX7_lay wsX5_setCell := goodIn_r _ [43, 38, 39, 54, 55, 56] (by decide +kernel) (by decide +kernel)
set_option maxRecDepth 20000 in
theorem gX7_lay_X5_setCell : GoodIn wsX7_lay (wsV RX7 87 RX5 yX5_setCell wsX5_setCell) := goodIn_app (goodIn_of _ (by decide +kernel)) ggX7_lay_X5_setCell
theorem dX7_lay_0 : decode cX7_lay 0 = .ok (.aload_n 0, 1) := by decide +kernel
theorem dX7_lay_1 : decode cX7_lay 1 = .ok (.aload_n 0, 1) := by decide +kernel
theorem dX7_lay_2 : decode cX7_lay 2 = .ok (.getfield 14, 3) := by decide +kernel
theorem dX7_lay_5 : decode cX7_lay 5 = .ok (.iload_n 1, 1) := by decide +kernel
theorem dX7_lay_6 : decode cX7_lay 6 = .ok (.iload_n 2, 1) := by decide +kernel
theorem dX7_lay_7 : decode cX7_lay 7 = .ok (.invokevirtual 79, 3) := by decide +kernel
theorem dX7_lay_10 : decode cX7_lay 10 = .ok (.istore 4, 2) := by decide +kernel
theorem dX7_lay_12 : decode cX7_lay 12 = .ok (.iload 4, 2) := by decide +kernel
theorem dX7_lay_14 : decode cX7_lay 14 = .ok (.ifCond .eq 6, 3) := by decide +kernel
theorem dX7_lay_17 : decode cX7_lay 17 = .ok (.iload 4, 2) := by decide +kernel
theorem dX7_lay_19 : decode cX7_lay 19 = .ok (.ireturn, 1) := by decide +kernel
theorem dX7_lay_20 : decode cX7_lay 20 = .ok (.aload_n 0, 1) := by decide +kernel
theorem dX7_lay_21 : decode cX7_lay 21 = .ok (.aload_n 0, 1) := by decide +kernel
theorem dX7_lay_22 : decode cX7_lay 22 = .ok (.getfield 14, 3) := by decide +kernel
theorem dX7_lay_25 : decode cX7_lay 25 = .ok (.iload_n 1, 1) := by decide +kernel
theorem dX7_lay_26 : decode cX7_lay 26 = .ok (.iload_n 2, 1) := by decide +kernel
theorem dX7_lay_27 : decode cX7_lay 27 = .ok (.invokevirtual 83, 3) := by decide +kernel
theorem dX7_lay_30 : decode cX7_lay 30 = .ok (.putfield 63, 3) := by decide +kernel
theorem dX7_lay_33 : decode cX7_lay 33 = .ok (.aload_n 0, 1) := by decide +kernel
theorem dX7_lay_34 : decode cX7_lay 34 = .ok (.getfield 14, 3) := by decide +kernel
theorem dX7_lay_37 : decode cX7_lay 37 = .ok (.iload_n 1, 1) := by decide +kernel
theorem dX7_lay_38 : decode cX7_lay 38 = .ok (.iload_n 2, 1) := by decide +kernel
theorem dX7_lay_39 : decode cX7_lay 39 = .ok (.iload_n 3, 1) := by decide +kernel
theorem dX7_lay_40 : decode cX7_lay 40 = .ok (.invokevirtual 87, 3) := by decide +kernel
theorem dX7_lay_43 : decode cX7_lay 43 = .ok (.iconst 1, 1) := by decide +kernel
theorem dX7_lay_44 : decode cX7_lay 44 = .ok (.ireturn, 1) := by decide +kernel
set_option maxRecDepth 20000 in
theorem ggX7_at_X7_refusalOfPlace : GoodIn wsX7_at wsX7_refusalOfPlace := goodIn_r _ [7, 8, 9, 10, 11, 6, 12, 13, 14, 15, 16, 17, 18, 19, 20, 21, 22, 23, 24, 25, 26, 27, 28, 29, 30, 31, 32, 33, 40, 41, 42, 43, 44, 45, 46, 47, 48, 49, 50, 51, 52, 53, 54] (by decide +kernel) (by decide +kernel)
set_option maxRecDepth 20000 in
theorem gX7_at_X7_refusalOfPlace : GoodIn wsX7_at (wsV RX7 79 RX7 yX7_refusalOfPlace wsX7_refusalOfPlace) := goodIn_app (goodIn_of _ (by decide +kernel)) ggX7_at_X7_refusalOfPlace
set_option maxRecDepth 20000 in
theorem ggX7_at_X5_cell : GoodIn wsX7_at wsX5_cell := goodIn_r _ [37, 38, 39, 50, 51, 52] (by decide +kernel) (by decide +kernel)
set_option maxRecDepth 20000 in
theorem gX7_at_X5_cell : GoodIn wsX7_at (wsV RX7 83 RX5 yX5_cell wsX5_cell) := goodIn_app (goodIn_of _ (by decide +kernel)) ggX7_at_X5_cell
theorem dX7_at_0 : decode cX7_at 0 = .ok (.aload_n 0, 1) := by decide +kernel
theorem dX7_at_1 : decode cX7_at 1 = .ok (.aload_n 0, 1) := by decide +kernel
theorem dX7_at_2 : decode cX7_at 2 = .ok (.getfield 14, 3) := by decide +kernel
theorem dX7_at_5 : decode cX7_at 5 = .ok (.iload_n 1, 1) := by decide +kernel
theorem dX7_at_6 : decode cX7_at 6 = .ok (.iload_n 2, 1) := by decide +kernel
theorem dX7_at_7 : decode cX7_at 7 = .ok (.invokevirtual 79, 3) := by decide +kernel
theorem dX7_at_10 : decode cX7_at 10 = .ok (.istore_n 3, 1) := by decide +kernel
theorem dX7_at_11 : decode cX7_at 11 = .ok (.iload_n 3, 1) := by decide +kernel
theorem dX7_at_12 : decode cX7_at 12 = .ok (.ifCond .eq 5, 3) := by decide +kernel
theorem dX7_at_15 : decode cX7_at 15 = .ok (.iload_n 3, 1) := by decide +kernel
theorem dX7_at_16 : decode cX7_at 16 = .ok (.ireturn, 1) := by decide +kernel
theorem dX7_at_17 : decode cX7_at 17 = .ok (.aload_n 0, 1) := by decide +kernel
theorem dX7_at_18 : decode cX7_at 18 = .ok (.aload_n 0, 1) := by decide +kernel
theorem dX7_at_19 : decode cX7_at 19 = .ok (.getfield 14, 3) := by decide +kernel
theorem dX7_at_22 : decode cX7_at 22 = .ok (.iload_n 1, 1) := by decide +kernel
theorem dX7_at_23 : decode cX7_at 23 = .ok (.iload_n 2, 1) := by decide +kernel
theorem dX7_at_24 : decode cX7_at 24 = .ok (.invokevirtual 83, 3) := by decide +kernel
theorem dX7_at_27 : decode cX7_at 27 = .ok (.putfield 63, 3) := by decide +kernel
theorem dX7_at_30 : decode cX7_at 30 = .ok (.iconst 1, 1) := by decide +kernel
theorem dX7_at_31 : decode cX7_at 31 = .ok (.ireturn, 1) := by decide +kernel
set_option maxRecDepth 20000 in
theorem ggX7_tear_X7_refusalOfShelf : GoodIn wsX7_tear wsX7_refusalOfShelf := goodIn_r _ [6, 7, 8, 9, 10, 11, 12, 13, 14, 15, 16, 17, 18, 19, 20, 21, 22, 23, 24, 29, 30, 31, 32, 33, 34, 35, 36, 37, 38, 39, 40, 41, 42, 43] (by decide +kernel) (by decide +kernel)
set_option maxRecDepth 20000 in
theorem gX7_tear_X7_refusalOfShelf : GoodIn wsX7_tear (wsV RX7 90 RX7 yX7_refusalOfShelf wsX7_refusalOfShelf) := goodIn_app (goodIn_of _ (by decide +kernel)) ggX7_tear_X7_refusalOfShelf
set_option maxRecDepth 20000 in
theorem ggX7_tear_X5_drop : GoodIn wsX7_tear wsX5_drop := goodIn_r _ [28, 13, 39, 40, 41] (by decide +kernel) (by decide +kernel)
set_option maxRecDepth 20000 in
theorem gX7_tear_X5_drop : GoodIn wsX7_tear (wsV RX7 94 RX5 yX5_drop wsX5_drop) := goodIn_app (goodIn_of _ (by decide +kernel)) ggX7_tear_X5_drop
theorem dX7_tear_0 : decode cX7_tear 0 = .ok (.aload_n 0, 1) := by decide +kernel
theorem dX7_tear_1 : decode cX7_tear 1 = .ok (.aload_n 0, 1) := by decide +kernel
theorem dX7_tear_2 : decode cX7_tear 2 = .ok (.getfield 14, 3) := by decide +kernel
theorem dX7_tear_5 : decode cX7_tear 5 = .ok (.iload_n 1, 1) := by decide +kernel
theorem dX7_tear_6 : decode cX7_tear 6 = .ok (.invokevirtual 90, 3) := by decide +kernel
theorem dX7_tear_9 : decode cX7_tear 9 = .ok (.istore_n 2, 1) := by decide +kernel
theorem dX7_tear_10 : decode cX7_tear 10 = .ok (.iload_n 2, 1) := by decide +kernel
theorem dX7_tear_11 : decode cX7_tear 11 = .ok (.ifCond .eq 5, 3) := by decide +kernel
theorem dX7_tear_14 : decode cX7_tear 14 = .ok (.iload_n 2, 1) := by decide +kernel
theorem dX7_tear_15 : decode cX7_tear 15 = .ok (.ireturn, 1) := by decide +kernel
theorem dX7_tear_16 : decode cX7_tear 16 = .ok (.aload_n 0, 1) := by decide +kernel
theorem dX7_tear_17 : decode cX7_tear 17 = .ok (.getfield 14, 3) := by decide +kernel
theorem dX7_tear_20 : decode cX7_tear 20 = .ok (.iload_n 1, 1) := by decide +kernel
theorem dX7_tear_21 : decode cX7_tear 21 = .ok (.invokevirtual 94, 3) := by decide +kernel
theorem dX7_tear_24 : decode cX7_tear 24 = .ok (.iconst 1, 1) := by decide +kernel
theorem dX7_tear_25 : decode cX7_tear 25 = .ok (.ireturn, 1) := by decide +kernel
set_option maxRecDepth 20000 in
theorem ggX7_copy_X5_hasNumber : GoodIn wsX7_copy wsX5_hasNumber := goodIn_r _ [7, 8, 44, 45, 46] (by decide +kernel) (by decide +kernel)
set_option maxRecDepth 20000 in
theorem gX7_copy_X5_hasNumber : GoodIn wsX7_copy (wsV RX7 67 RX5 yX5_hasNumber wsX5_hasNumber) := goodIn_app (goodIn_of _ (by decide +kernel)) ggX7_copy_X5_hasNumber
set_option maxRecDepth 20000 in
theorem ggX7_copy_X6_note : GoodIn wsX7_copy wsX6_note := goodIn_r _ [13, 14, 15, 47, 48] (by decide +kernel) (by decide +kernel)
set_option maxRecDepth 20000 in
theorem gX7_copy_X6_note : GoodIn wsX7_copy (wsV RX7 71 RX6 yX6_note wsX6_note) := goodIn_app (goodIn_of _ (by decide +kernel)) ggX7_copy_X6_note
set_option maxRecDepth 20000 in
theorem ggX7_copy_X5_isThere : GoodIn wsX7_copy wsX5_isThere := goodIn_r _ [19, 8, 44, 45, 46] (by decide +kernel) (by decide +kernel)
set_option maxRecDepth 20000 in
theorem gX7_copy_X5_isThere : GoodIn wsX7_copy (wsV RX7 98 RX5 yX5_isThere wsX5_isThere) := goodIn_app (goodIn_of _ (by decide +kernel)) ggX7_copy_X5_isThere
set_option maxRecDepth 20000 in
theorem ggX7_copy_X5_reaches : GoodIn wsX7_copy wsX5_reaches := goodIn_r _ [23, 8, 44, 45, 46] (by decide +kernel) (by decide +kernel)
set_option maxRecDepth 20000 in
theorem gX7_copy_X5_reaches : GoodIn wsX7_copy (wsV RX7 101 RX5 yX5_reaches wsX5_reaches) := goodIn_app (goodIn_of _ (by decide +kernel)) ggX7_copy_X5_reaches
set_option maxRecDepth 20000 in
theorem ggX7_copy_X5_move : GoodIn wsX7_copy wsX5_move := goodIn_r _ [27, 28, 29, 30, 31, 32, 33, 44, 45, 46] (by decide +kernel) (by decide +kernel)
set_option maxRecDepth 20000 in
theorem gX7_copy_X5_move : GoodIn wsX7_copy (wsV RX7 105 RX5 yX5_move wsX5_move) := goodIn_app (goodIn_of _ (by decide +kernel)) ggX7_copy_X5_move
theorem dX7_copy_0 : decode cX7_copy 0 = .ok (.aload_n 0, 1) := by decide +kernel
theorem dX7_copy_1 : decode cX7_copy 1 = .ok (.getfield 14, 3) := by decide +kernel
theorem dX7_copy_4 : decode cX7_copy 4 = .ok (.iload_n 1, 1) := by decide +kernel
theorem dX7_copy_5 : decode cX7_copy 5 = .ok (.invokevirtual 67, 3) := by decide +kernel
theorem dX7_copy_8 : decode cX7_copy 8 = .ok (.ifCond .eq 14, 3) := by decide +kernel
theorem dX7_copy_11 : decode cX7_copy 11 = .ok (.aload_n 0, 1) := by decide +kernel
theorem dX7_copy_12 : decode cX7_copy 12 = .ok (.getfield 14, 3) := by decide +kernel
theorem dX7_copy_15 : decode cX7_copy 15 = .ok (.iload_n 3, 1) := by decide +kernel
theorem dX7_copy_16 : decode cX7_copy 16 = .ok (.invokevirtual 67, 3) := by decide +kernel
theorem dX7_copy_19 : decode cX7_copy 19 = .ok (.ifCond .ne 5, 3) := by decide +kernel
theorem dX7_copy_22 : decode cX7_copy 22 = .ok (.iconst (-1), 1) := by decide +kernel
theorem dX7_copy_23 : decode cX7_copy 23 = .ok (.ireturn, 1) := by decide +kernel
theorem dX7_copy_24 : decode cX7_copy 24 = .ok (.iload 5, 2) := by decide +kernel
theorem dX7_copy_26 : decode cX7_copy 26 = .ok (.ifCond .ge 12, 3) := by decide +kernel
theorem dX7_copy_29 : decode cX7_copy 29 = .ok (.aload_n 0, 1) := by decide +kernel
theorem dX7_copy_30 : decode cX7_copy 30 = .ok (.getfield 59, 3) := by decide +kernel
theorem dX7_copy_33 : decode cX7_copy 33 = .ok (.iconst 5, 1) := by decide +kernel
theorem dX7_copy_34 : decode cX7_copy 34 = .ok (.invokevirtual 71, 3) := by decide +kernel
theorem dX7_copy_37 : decode cX7_copy 37 = .ok (.ireturn, 1) := by decide +kernel
theorem dX7_copy_38 : decode cX7_copy 38 = .ok (.aload_n 0, 1) := by decide +kernel
theorem dX7_copy_39 : decode cX7_copy 39 = .ok (.getfield 14, 3) := by decide +kernel
theorem dX7_copy_42 : decode cX7_copy 42 = .ok (.iload_n 1, 1) := by decide +kernel
theorem dX7_copy_43 : decode cX7_copy 43 = .ok (.invokevirtual 98, 3) := by decide +kernel
theorem dX7_copy_46 : decode cX7_copy 46 = .ok (.ifCond .eq 14, 3) := by decide +kernel
theorem dX7_copy_49 : decode cX7_copy 49 = .ok (.aload_n 0, 1) := by decide +kernel
theorem dX7_copy_50 : decode cX7_copy 50 = .ok (.getfield 14, 3) := by decide +kernel
theorem dX7_copy_53 : decode cX7_copy 53 = .ok (.iload_n 3, 1) := by decide +kernel
theorem dX7_copy_54 : decode cX7_copy 54 = .ok (.invokevirtual 98, 3) := by decide +kernel
theorem dX7_copy_57 : decode cX7_copy 57 = .ok (.ifCond .ne 12, 3) := by decide +kernel
theorem dX7_copy_60 : decode cX7_copy 60 = .ok (.aload_n 0, 1) := by decide +kernel
theorem dX7_copy_61 : decode cX7_copy 61 = .ok (.getfield 59, 3) := by decide +kernel
theorem dX7_copy_64 : decode cX7_copy 64 = .ok (.iconst 1, 1) := by decide +kernel
theorem dX7_copy_65 : decode cX7_copy 65 = .ok (.invokevirtual 71, 3) := by decide +kernel
theorem dX7_copy_68 : decode cX7_copy 68 = .ok (.ireturn, 1) := by decide +kernel
theorem dX7_copy_69 : decode cX7_copy 69 = .ok (.aload_n 0, 1) := by decide +kernel
theorem dX7_copy_70 : decode cX7_copy 70 = .ok (.getfield 14, 3) := by decide +kernel
theorem dX7_copy_73 : decode cX7_copy 73 = .ok (.iload_n 1, 1) := by decide +kernel
theorem dX7_copy_74 : decode cX7_copy 74 = .ok (.iload_n 2, 1) := by decide +kernel
theorem dX7_copy_75 : decode cX7_copy 75 = .ok (.iload 5, 2) := by decide +kernel
theorem dX7_copy_77 : decode cX7_copy 77 = .ok (.invokevirtual 101, 3) := by decide +kernel
theorem dX7_copy_80 : decode cX7_copy 80 = .ok (.ifCond .eq 18, 3) := by decide +kernel
theorem dX7_copy_83 : decode cX7_copy 83 = .ok (.aload_n 0, 1) := by decide +kernel
theorem dX7_copy_84 : decode cX7_copy 84 = .ok (.getfield 14, 3) := by decide +kernel
theorem dX7_copy_87 : decode cX7_copy 87 = .ok (.iload_n 3, 1) := by decide +kernel
theorem dX7_copy_88 : decode cX7_copy 88 = .ok (.iload 4, 2) := by decide +kernel
theorem dX7_copy_90 : decode cX7_copy 90 = .ok (.iload 5, 2) := by decide +kernel
theorem dX7_copy_92 : decode cX7_copy 92 = .ok (.invokevirtual 101, 3) := by decide +kernel
theorem dX7_copy_95 : decode cX7_copy 95 = .ok (.ifCond .ne 12, 3) := by decide +kernel
theorem dX7_copy_98 : decode cX7_copy 98 = .ok (.aload_n 0, 1) := by decide +kernel
theorem dX7_copy_99 : decode cX7_copy 99 = .ok (.getfield 59, 3) := by decide +kernel
theorem dX7_copy_102 : decode cX7_copy 102 = .ok (.iconst 2, 1) := by decide +kernel
theorem dX7_copy_103 : decode cX7_copy 103 = .ok (.invokevirtual 71, 3) := by decide +kernel
theorem dX7_copy_106 : decode cX7_copy 106 = .ok (.ireturn, 1) := by decide +kernel
theorem dX7_copy_107 : decode cX7_copy 107 = .ok (.aload_n 0, 1) := by decide +kernel
theorem dX7_copy_108 : decode cX7_copy 108 = .ok (.getfield 14, 3) := by decide +kernel
theorem dX7_copy_111 : decode cX7_copy 111 = .ok (.iload_n 1, 1) := by decide +kernel
theorem dX7_copy_112 : decode cX7_copy 112 = .ok (.iload_n 2, 1) := by decide +kernel
theorem dX7_copy_113 : decode cX7_copy 113 = .ok (.iload_n 3, 1) := by decide +kernel
theorem dX7_copy_114 : decode cX7_copy 114 = .ok (.iload 4, 2) := by decide +kernel
theorem dX7_copy_116 : decode cX7_copy 116 = .ok (.iload 5, 2) := by decide +kernel
theorem dX7_copy_118 : decode cX7_copy 118 = .ok (.invokevirtual 105, 3) := by decide +kernel
theorem dX7_copy_121 : decode cX7_copy 121 = .ok (.iconst 1, 1) := by decide +kernel
theorem dX7_copy_122 : decode cX7_copy 122 = .ok (.ireturn, 1) := by decide +kernel
set_option maxRecDepth 20000 in
theorem ggX7_mean_X7_refusalOfShelf : GoodIn wsX7_mean wsX7_refusalOfShelf := goodIn_r _ [8, 2, 9, 10, 11, 12, 13, 14, 15, 16, 17, 18, 19, 20, 21, 22, 23, 24, 25, 40, 41, 42, 43, 44, 45, 46, 47, 48, 49, 50, 51, 52, 53, 54] (by decide +kernel) (by decide +kernel)
set_option maxRecDepth 20000 in
theorem gX7_mean_X7_refusalOfShelf : GoodIn wsX7_mean (wsV RX7 90 RX7 yX7_refusalOfShelf wsX7_refusalOfShelf) := goodIn_app (goodIn_of _ (by decide +kernel)) ggX7_mean_X7_refusalOfShelf
set_option maxRecDepth 20000 in
theorem ggX7_mean_X5_sizeOf : GoodIn wsX7_mean wsX5_sizeOf := goodIn_r _ [29, 14, 50, 51, 52] (by decide +kernel) (by decide +kernel)
set_option maxRecDepth 20000 in
theorem gX7_mean_X5_sizeOf : GoodIn wsX7_mean (wsV RX7 109 RX5 yX5_sizeOf wsX5_sizeOf) := goodIn_app (goodIn_of _ (by decide +kernel)) ggX7_mean_X5_sizeOf
set_option maxRecDepth 20000 in
theorem ggX7_mean_X6_note : GoodIn wsX7_mean wsX6_note := goodIn_r _ [23, 24, 25, 53, 54] (by decide +kernel) (by decide +kernel)
set_option maxRecDepth 20000 in
theorem gX7_mean_X6_note : GoodIn wsX7_mean (wsV RX7 71 RX6 yX6_note wsX6_note) := goodIn_app (goodIn_of _ (by decide +kernel)) ggX7_mean_X6_note
set_option maxRecDepth 20000 in
theorem ggX7_mean_X5_sumOf : GoodIn wsX7_mean wsX5_sumOf := goodIn_r _ [33, 14, 34, 35, 36, 12, 37, 38, 39, 50, 51, 52] (by decide +kernel) (by decide +kernel)
set_option maxRecDepth 20000 in
theorem gX7_mean_X5_sumOf : GoodIn wsX7_mean (wsV RX7 112 RX5 yX5_sumOf wsX5_sumOf) := goodIn_app (goodIn_of _ (by decide +kernel)) ggX7_mean_X5_sumOf
theorem dX7_mean_0 : decode cX7_mean 0 = .ok (.aload_n 0, 1) := by decide +kernel
theorem dX7_mean_1 : decode cX7_mean 1 = .ok (.aload_n 0, 1) := by decide +kernel
theorem dX7_mean_2 : decode cX7_mean 2 = .ok (.getfield 14, 3) := by decide +kernel
theorem dX7_mean_5 : decode cX7_mean 5 = .ok (.iload_n 1, 1) := by decide +kernel
theorem dX7_mean_6 : decode cX7_mean 6 = .ok (.invokevirtual 90, 3) := by decide +kernel
theorem dX7_mean_9 : decode cX7_mean 9 = .ok (.istore_n 2, 1) := by decide +kernel
theorem dX7_mean_10 : decode cX7_mean 10 = .ok (.iload_n 2, 1) := by decide +kernel
theorem dX7_mean_11 : decode cX7_mean 11 = .ok (.ifCond .eq 5, 3) := by decide +kernel
theorem dX7_mean_14 : decode cX7_mean 14 = .ok (.iload_n 2, 1) := by decide +kernel
theorem dX7_mean_15 : decode cX7_mean 15 = .ok (.ireturn, 1) := by decide +kernel
theorem dX7_mean_16 : decode cX7_mean 16 = .ok (.aload_n 0, 1) := by decide +kernel
theorem dX7_mean_17 : decode cX7_mean 17 = .ok (.getfield 14, 3) := by decide +kernel
theorem dX7_mean_20 : decode cX7_mean 20 = .ok (.iload_n 1, 1) := by decide +kernel
theorem dX7_mean_21 : decode cX7_mean 21 = .ok (.invokevirtual 109, 3) := by decide +kernel
theorem dX7_mean_24 : decode cX7_mean 24 = .ok (.istore_n 3, 1) := by decide +kernel
theorem dX7_mean_25 : decode cX7_mean 25 = .ok (.iload_n 3, 1) := by decide +kernel
theorem dX7_mean_26 : decode cX7_mean 26 = .ok (.ifCond .gt 12, 3) := by decide +kernel
theorem dX7_mean_29 : decode cX7_mean 29 = .ok (.aload_n 0, 1) := by decide +kernel
theorem dX7_mean_30 : decode cX7_mean 30 = .ok (.getfield 59, 3) := by decide +kernel
theorem dX7_mean_33 : decode cX7_mean 33 = .ok (.iconst 4, 1) := by decide +kernel
theorem dX7_mean_34 : decode cX7_mean 34 = .ok (.invokevirtual 71, 3) := by decide +kernel
theorem dX7_mean_37 : decode cX7_mean 37 = .ok (.ireturn, 1) := by decide +kernel
theorem dX7_mean_38 : decode cX7_mean 38 = .ok (.aload_n 0, 1) := by decide +kernel
theorem dX7_mean_39 : decode cX7_mean 39 = .ok (.aload_n 0, 1) := by decide +kernel
theorem dX7_mean_40 : decode cX7_mean 40 = .ok (.getfield 14, 3) := by decide +kernel
theorem dX7_mean_43 : decode cX7_mean 43 = .ok (.iload_n 1, 1) := by decide +kernel
theorem dX7_mean_44 : decode cX7_mean 44 = .ok (.invokevirtual 112, 3) := by decide +kernel
theorem dX7_mean_47 : decode cX7_mean 47 = .ok (.iload_n 3, 1) := by decide +kernel
theorem dX7_mean_48 : decode cX7_mean 48 = .ok (.i2l, 1) := by decide +kernel
theorem dX7_mean_49 : decode cX7_mean 49 = .ok (.ldiv, 1) := by decide +kernel
theorem dX7_mean_50 : decode cX7_mean 50 = .ok (.l2i, 1) := by decide +kernel
theorem dX7_mean_51 : decode cX7_mean 51 = .ok (.putfield 63, 3) := by decide +kernel
theorem dX7_mean_54 : decode cX7_mean 54 = .ok (.iconst 1, 1) := by decide +kernel
theorem dX7_mean_55 : decode cX7_mean 55 = .ok (.ireturn, 1) := by decide +kernel
set_option maxRecDepth 20000 in
theorem ggX7_text_X5_hasNumber : GoodIn wsX7_text wsX5_hasNumber := goodIn_r _ [7, 8, 39, 40, 41] (by decide +kernel) (by decide +kernel)
set_option maxRecDepth 20000 in
theorem gX7_text_X5_hasNumber : GoodIn wsX7_text (wsV RX7 67 RX5 yX5_hasNumber wsX5_hasNumber) := goodIn_app (goodIn_of _ (by decide +kernel)) ggX7_text_X5_hasNumber
set_option maxRecDepth 20000 in
theorem ggX7_text_X6_note : GoodIn wsX7_text wsX6_note := goodIn_r _ [13, 14, 15, 42, 43] (by decide +kernel) (by decide +kernel)
set_option maxRecDepth 20000 in
theorem gX7_text_X6_note : GoodIn wsX7_text (wsV RX7 71 RX6 yX6_note wsX6_note) := goodIn_app (goodIn_of _ (by decide +kernel)) ggX7_text_X6_note
set_option maxRecDepth 20000 in
theorem ggX7_text_X5_makeAnew : GoodIn wsX7_text wsX5_makeAnew := goodIn_r _ [19, 8, 20, 21, 22, 23, 24, 25, 26, 27, 28, 39, 40, 41] (by decide +kernel) (by decide +kernel)
set_option maxRecDepth 20000 in
theorem gX7_text_X5_makeAnew : GoodIn wsX7_text (wsV RX7 75 RX5 yX5_makeAnew wsX5_makeAnew) := goodIn_app (goodIn_of _ (by decide +kernel)) ggX7_text_X5_makeAnew
theorem dX7_text_0 : decode cX7_text 0 = .ok (.aload_n 0, 1) := by decide +kernel
theorem dX7_text_1 : decode cX7_text 1 = .ok (.getfield 18, 3) := by decide +kernel
theorem dX7_text_4 : decode cX7_text 4 = .ok (.iload_n 1, 1) := by decide +kernel
theorem dX7_text_5 : decode cX7_text 5 = .ok (.invokevirtual 67, 3) := by decide +kernel
theorem dX7_text_8 : decode cX7_text 8 = .ok (.ifCond .eq 9, 3) := by decide +kernel
theorem dX7_text_11 : decode cX7_text 11 = .ok (.iload_n 2, 1) := by decide +kernel
theorem dX7_text_12 : decode cX7_text 12 = .ok (.bipush 80, 2) := by decide +kernel
theorem dX7_text_14 : decode cX7_text 14 = .ok (.if_icmp .le 5, 3) := by decide +kernel
theorem dX7_text_17 : decode cX7_text 17 = .ok (.iconst (-1), 1) := by decide +kernel
theorem dX7_text_18 : decode cX7_text 18 = .ok (.ireturn, 1) := by decide +kernel
theorem dX7_text_19 : decode cX7_text 19 = .ok (.iload_n 2, 1) := by decide +kernel
theorem dX7_text_20 : decode cX7_text 20 = .ok (.ifCond .ge 12, 3) := by decide +kernel
theorem dX7_text_23 : decode cX7_text 23 = .ok (.aload_n 0, 1) := by decide +kernel
theorem dX7_text_24 : decode cX7_text 24 = .ok (.getfield 59, 3) := by decide +kernel
theorem dX7_text_27 : decode cX7_text 27 = .ok (.iconst 5, 1) := by decide +kernel
theorem dX7_text_28 : decode cX7_text 28 = .ok (.invokevirtual 71, 3) := by decide +kernel
theorem dX7_text_31 : decode cX7_text 31 = .ok (.ireturn, 1) := by decide +kernel
theorem dX7_text_32 : decode cX7_text 32 = .ok (.aload_n 0, 1) := by decide +kernel
theorem dX7_text_33 : decode cX7_text 33 = .ok (.getfield 18, 3) := by decide +kernel
theorem dX7_text_36 : decode cX7_text 36 = .ok (.iload_n 1, 1) := by decide +kernel
theorem dX7_text_37 : decode cX7_text 37 = .ok (.iload_n 2, 1) := by decide +kernel
theorem dX7_text_38 : decode cX7_text 38 = .ok (.bipush 32, 2) := by decide +kernel
theorem dX7_text_40 : decode cX7_text 40 = .ok (.invokevirtual 75, 3) := by decide +kernel
theorem dX7_text_43 : decode cX7_text 43 = .ok (.iload_n 2, 1) := by decide +kernel
theorem dX7_text_44 : decode cX7_text 44 = .ok (.ireturn, 1) := by decide +kernel
set_option maxRecDepth 20000 in
theorem ggX7_put_X7_refusalOfPlace : GoodIn wsX7_put wsX7_refusalOfPlace := goodIn_r _ [6, 7, 8, 9, 10, 5, 11, 12, 13, 14, 15, 16, 17, 18, 19, 20, 21, 22, 23, 24, 25, 26, 27, 28, 29, 30, 31, 32, 43, 44, 45, 46, 47, 48, 49, 50, 51, 52, 53, 54, 55, 56, 57] (by decide +kernel) (by decide +kernel)
set_option maxRecDepth 20000 in
theorem gX7_put_X7_refusalOfPlace : GoodIn wsX7_put (wsV RX7 79 RX7 yX7_refusalOfPlace wsX7_refusalOfPlace) := goodIn_app (goodIn_of _ (by decide +kernel)) ggX7_put_X7_refusalOfPlace
set_option maxRecDepth 20000 in
theorem ggX7_put_X5_cell : GoodIn wsX7_put wsX5_cell := goodIn_r _ [36, 37, 38, 53, 54, 55] (by decide +kernel) (by decide +kernel)
set_option maxRecDepth 20000 in
theorem gX7_put_X5_cell : GoodIn wsX7_put (wsV RX7 83 RX5 yX5_cell wsX5_cell) := goodIn_app (goodIn_of _ (by decide +kernel)) ggX7_put_X5_cell
set_option maxRecDepth 20000 in
theorem ggX7_put_X5_setCell : GoodIn wsX7_put wsX5_setCell := goodIn_r _ [42, 37, 38, 53, 54, 55] (by decide +kernel) (by decide +kernel)
set_option maxRecDepth 20000 in
theorem gX7_put_X5_setCell : GoodIn wsX7_put (wsV RX7 87 RX5 yX5_setCell wsX5_setCell) := goodIn_app (goodIn_of _ (by decide +kernel)) ggX7_put_X5_setCell
theorem dX7_put_0 : decode cX7_put 0 = .ok (.aload_n 0, 1) := by decide +kernel
theorem dX7_put_1 : decode cX7_put 1 = .ok (.aload_n 0, 1) := by decide +kernel
theorem dX7_put_2 : decode cX7_put 2 = .ok (.getfield 18, 3) := by decide +kernel
theorem dX7_put_5 : decode cX7_put 5 = .ok (.iload_n 1, 1) := by decide +kernel
theorem dX7_put_6 : decode cX7_put 6 = .ok (.iload_n 2, 1) := by decide +kernel
theorem dX7_put_7 : decode cX7_put 7 = .ok (.invokevirtual 79, 3) := by decide +kernel
theorem dX7_put_10 : decode cX7_put 10 = .ok (.istore 4, 2) := by decide +kernel
theorem dX7_put_12 : decode cX7_put 12 = .ok (.iload 4, 2) := by decide +kernel
theorem dX7_put_14 : decode cX7_put 14 = .ok (.ifCond .eq 6, 3) := by decide +kernel
theorem dX7_put_17 : decode cX7_put 17 = .ok (.iload 4, 2) := by decide +kernel
theorem dX7_put_19 : decode cX7_put 19 = .ok (.ireturn, 1) := by decide +kernel
theorem dX7_put_20 : decode cX7_put 20 = .ok (.aload_n 0, 1) := by decide +kernel
theorem dX7_put_21 : decode cX7_put 21 = .ok (.getfield 18, 3) := by decide +kernel
theorem dX7_put_24 : decode cX7_put 24 = .ok (.iload_n 1, 1) := by decide +kernel
theorem dX7_put_25 : decode cX7_put 25 = .ok (.iload_n 2, 1) := by decide +kernel
theorem dX7_put_26 : decode cX7_put 26 = .ok (.invokevirtual 83, 3) := by decide +kernel
theorem dX7_put_29 : decode cX7_put 29 = .ok (.istore 5, 2) := by decide +kernel
theorem dX7_put_31 : decode cX7_put 31 = .ok (.aload_n 0, 1) := by decide +kernel
theorem dX7_put_32 : decode cX7_put 32 = .ok (.getfield 18, 3) := by decide +kernel
theorem dX7_put_35 : decode cX7_put 35 = .ok (.iload_n 1, 1) := by decide +kernel
theorem dX7_put_36 : decode cX7_put 36 = .ok (.iload_n 2, 1) := by decide +kernel
theorem dX7_put_37 : decode cX7_put 37 = .ok (.iload_n 3, 1) := by decide +kernel
theorem dX7_put_38 : decode cX7_put 38 = .ok (.i2b, 1) := by decide +kernel
theorem dX7_put_39 : decode cX7_put 39 = .ok (.invokevirtual 87, 3) := by decide +kernel
theorem dX7_put_42 : decode cX7_put 42 = .ok (.iload 5, 2) := by decide +kernel
theorem dX7_put_44 : decode cX7_put 44 = .ok (.sipush 1000, 3) := by decide +kernel
theorem dX7_put_47 : decode cX7_put 47 = .ok (.iadd, 1) := by decide +kernel
theorem dX7_put_48 : decode cX7_put 48 = .ok (.ireturn, 1) := by decide +kernel
set_option maxRecDepth 20000 in
theorem ggX7_fault_X7_refusalOfShelf : GoodIn wsX7_fault wsX7_refusalOfShelf := goodIn_r _ [7, 8, 9, 10, 11, 12, 13, 14, 15, 16, 17, 18, 19, 20, 21, 22, 23, 24, 25, 131, 132, 133, 134, 135, 136, 137, 138, 139, 140, 141, 142, 143, 144, 145] (by decide +kernel) (by decide +kernel)
set_option maxRecDepth 20000 in
theorem gX7_fault_X7_refusalOfShelf : GoodIn wsX7_fault (wsV RX7 90 RX7 yX7_refusalOfShelf wsX7_refusalOfShelf) := goodIn_app (goodIn_of _ (by decide +kernel)) ggX7_fault_X7_refusalOfShelf
set_option maxRecDepth 20000 in
theorem ggX7_fault_X3_readInto : GoodIn wsX7_fault wsX3_readInto := goodIn_r _ [29, 30, 31, 32, 33, 34, 35, 36, 37, 38, 39, 40, 12, 41, 14, 42, 43, 44, 45, 46, 47, 48, 49, 28, 50, 51, 52, 53, 54, 55, 56, 57, 58, 59, 60, 61, 62, 63, 64, 65, 66, 67, 68, 69, 70, 71, 72, 73, 74, 75, 76, 77, 78, 79, 80, 81, 82, 83, 84, 85, 86, 87, 88, 89, 90, 91, 92, 93, 94, 95, 96, 97, 98, 99, 100, 101, 102, 103, 104, 105, 106, 107, 108, 109, 110, 111, 112, 113, 114, 115, 116, 117, 118, 119, 120, 121, 122, 123, 124, 125, 126, 127, 128, 129, 6, 130, 146, 147, 148, 149, 150, 151, 152, 153, 154, 155, 141, 142, 143] (by decide +kernel) (by decide +kernel)
set_option maxRecDepth 20000 in
theorem gX7_fault_X3_readInto : GoodIn wsX7_fault (va_wsS RX7 116 yX3_readInto wsX3_readInto) := goodIn_app (goodIn_of _ (by decide +kernel)) ggX7_fault_X3_readInto
theorem dX7_fault_0 : decode cX7_fault 0 = .ok (.aload_n 0, 1) := by decide +kernel
theorem dX7_fault_1 : decode cX7_fault 1 = .ok (.aload_n 0, 1) := by decide +kernel
theorem dX7_fault_2 : decode cX7_fault 2 = .ok (.getfield 18, 3) := by decide +kernel
theorem dX7_fault_5 : decode cX7_fault 5 = .ok (.iload_n 1, 1) := by decide +kernel
theorem dX7_fault_6 : decode cX7_fault 6 = .ok (.invokevirtual 90, 3) := by decide +kernel
theorem dX7_fault_9 : decode cX7_fault 9 = .ok (.istore_n 2, 1) := by decide +kernel
theorem dX7_fault_10 : decode cX7_fault 10 = .ok (.iload_n 2, 1) := by decide +kernel
theorem dX7_fault_11 : decode cX7_fault 11 = .ok (.ifCond .eq 5, 3) := by decide +kernel
theorem dX7_fault_14 : decode cX7_fault 14 = .ok (.iload_n 2, 1) := by decide +kernel
theorem dX7_fault_15 : decode cX7_fault 15 = .ok (.ireturn, 1) := by decide +kernel
theorem dX7_fault_16 : decode cX7_fault 16 = .ok (.aload_n 0, 1) := by decide +kernel
theorem dX7_fault_17 : decode cX7_fault 17 = .ok (.getfield 28, 3) := by decide +kernel
theorem dX7_fault_20 : decode cX7_fault 20 = .ok (.aload_n 0, 1) := by decide +kernel
theorem dX7_fault_21 : decode cX7_fault 21 = .ok (.getfield 18, 3) := by decide +kernel
theorem dX7_fault_24 : decode cX7_fault 24 = .ok (.iload_n 1, 1) := by decide +kernel
theorem dX7_fault_25 : decode cX7_fault 25 = .ok (.invokestatic 116, 3) := by decide +kernel
theorem dX7_fault_28 : decode cX7_fault 28 = .ok (.ireturn, 1) := by decide +kernel
set_option maxRecDepth 20000 in
theorem ggX7_heap_X7_refusalOfShelf : GoodIn wsX7_heap wsX7_refusalOfShelf := goodIn_r _ [9, 10, 11, 12, 13, 14, 15, 16, 17, 18, 19, 20, 21, 22, 23, 24, 25, 26, 27, 146, 147, 148, 149, 150, 151, 152, 153, 154, 155, 156, 157, 158, 159, 160] (by decide +kernel) (by decide +kernel)
set_option maxRecDepth 20000 in
theorem gX7_heap_X7_refusalOfShelf : GoodIn wsX7_heap (wsV RX7 90 RX7 yX7_refusalOfShelf wsX7_refusalOfShelf) := goodIn_app (goodIn_of _ (by decide +kernel)) ggX7_heap_X7_refusalOfShelf
set_option maxRecDepth 20000 in
theorem ggX7_heap_X3_readInto : GoodIn wsX7_heap wsX3_readInto := goodIn_r _ [31, 32, 33, 34, 35, 36, 37, 38, 39, 40, 41, 42, 14, 43, 16, 44, 45, 46, 47, 48, 49, 50, 51, 30, 52, 53, 54, 55, 56, 57, 58, 59, 60, 61, 62, 63, 64, 65, 66, 67, 68, 69, 70, 71, 72, 73, 74, 75, 76, 77, 78, 79, 80, 81, 82, 83, 84, 85, 86, 87, 88, 89, 90, 91, 92, 93, 94, 95, 96, 97, 98, 99, 100, 101, 102, 103, 104, 105, 106, 107, 108, 109, 110, 111, 112, 113, 114, 115, 116, 117, 118, 119, 120, 121, 122, 123, 124, 125, 126, 127, 128, 129, 130, 131, 8, 132, 161, 162, 163, 164, 165, 166, 167, 168, 169, 170, 156, 157, 158] (by decide +kernel) (by decide +kernel)
set_option maxRecDepth 20000 in
theorem gX7_heap_X3_readInto : GoodIn wsX7_heap (va_wsS RX7 116 yX3_readInto wsX3_readInto) := goodIn_app (goodIn_of _ (by decide +kernel)) ggX7_heap_X3_readInto
set_option maxRecDepth 20000 in
theorem ggX7_heap_X1_becomeLike : GoodIn wsX7_heap wsX1_becomeLike := goodIn_r _ [136, 124, 137, 138, 139, 140, 125, 126, 127, 128, 129, 141, 37, 38, 39, 161, 162, 163, 164, 165, 166, 167, 168, 169, 170] (by decide +kernel) (by decide +kernel)
set_option maxRecDepth 20000 in
theorem gX7_heap_X1_becomeLike : GoodIn wsX7_heap (wsV RX7 122 RX1 yX1_becomeLike wsX1_becomeLike) := goodIn_app (goodIn_of _ (by decide +kernel)) ggX7_heap_X1_becomeLike
set_option maxRecDepth 20000 in
theorem ggX7_heap_X1_howMany : GoodIn wsX7_heap wsX1_howMany := goodIn_r _ [145, 37, 161, 162, 163, 164, 165, 166, 167, 168, 169, 170] (by decide +kernel) (by decide +kernel)
set_option maxRecDepth 20000 in
theorem gX7_heap_X1_howMany : GoodIn wsX7_heap (wsV RX7 126 RX1 yX1_howMany wsX1_howMany) := goodIn_app (goodIn_of _ (by decide +kernel)) ggX7_heap_X1_howMany
theorem dX7_heap_0 : decode cX7_heap 0 = .ok (.aload_n 0, 1) := by decide +kernel
theorem dX7_heap_1 : decode cX7_heap 1 = .ok (.aload_n 0, 1) := by decide +kernel
theorem dX7_heap_2 : decode cX7_heap 2 = .ok (.getfield 18, 3) := by decide +kernel
theorem dX7_heap_5 : decode cX7_heap 5 = .ok (.iload_n 1, 1) := by decide +kernel
theorem dX7_heap_6 : decode cX7_heap 6 = .ok (.invokevirtual 90, 3) := by decide +kernel
theorem dX7_heap_9 : decode cX7_heap 9 = .ok (.istore_n 2, 1) := by decide +kernel
theorem dX7_heap_10 : decode cX7_heap 10 = .ok (.iload_n 2, 1) := by decide +kernel
theorem dX7_heap_11 : decode cX7_heap 11 = .ok (.ifCond .eq 5, 3) := by decide +kernel
theorem dX7_heap_14 : decode cX7_heap 14 = .ok (.iload_n 2, 1) := by decide +kernel
theorem dX7_heap_15 : decode cX7_heap 15 = .ok (.ireturn, 1) := by decide +kernel
theorem dX7_heap_16 : decode cX7_heap 16 = .ok (.aload_n 0, 1) := by decide +kernel
theorem dX7_heap_17 : decode cX7_heap 17 = .ok (.getfield 28, 3) := by decide +kernel
theorem dX7_heap_20 : decode cX7_heap 20 = .ok (.aload_n 0, 1) := by decide +kernel
theorem dX7_heap_21 : decode cX7_heap 21 = .ok (.getfield 18, 3) := by decide +kernel
theorem dX7_heap_24 : decode cX7_heap 24 = .ok (.iload_n 1, 1) := by decide +kernel
theorem dX7_heap_25 : decode cX7_heap 25 = .ok (.invokestatic 116, 3) := by decide +kernel
theorem dX7_heap_28 : decode cX7_heap 28 = .ok (.bipush (-9), 2) := by decide +kernel
theorem dX7_heap_30 : decode cX7_heap 30 = .ok (.if_icmp .eq 6, 3) := by decide +kernel
theorem dX7_heap_33 : decode cX7_heap 33 = .ok (.bipush (-4), 2) := by decide +kernel
theorem dX7_heap_35 : decode cX7_heap 35 = .ok (.ireturn, 1) := by decide +kernel
theorem dX7_heap_36 : decode cX7_heap 36 = .ok (.aload_n 0, 1) := by decide +kernel
theorem dX7_heap_37 : decode cX7_heap 37 = .ok (.getfield 24, 3) := by decide +kernel
theorem dX7_heap_40 : decode cX7_heap 40 = .ok (.aload_n 0, 1) := by decide +kernel
theorem dX7_heap_41 : decode cX7_heap 41 = .ok (.getfield 28, 3) := by decide +kernel
theorem dX7_heap_44 : decode cX7_heap 44 = .ok (.invokevirtual 122, 3) := by decide +kernel
theorem dX7_heap_47 : decode cX7_heap 47 = .ok (.iconst 0, 1) := by decide +kernel
theorem dX7_heap_48 : decode cX7_heap 48 = .ok (.istore_n 3, 1) := by decide +kernel
theorem dX7_heap_49 : decode cX7_heap 49 = .ok (.iload_n 3, 1) := by decide +kernel
theorem dX7_heap_50 : decode cX7_heap 50 = .ok (.iconst 3, 1) := by decide +kernel
theorem dX7_heap_51 : decode cX7_heap 51 = .ok (.if_icmp .ge 16, 3) := by decide +kernel
theorem dX7_heap_54 : decode cX7_heap 54 = .ok (.aload_n 0, 1) := by decide +kernel
theorem dX7_heap_55 : decode cX7_heap 55 = .ok (.getfield 31, 3) := by decide +kernel
theorem dX7_heap_58 : decode cX7_heap 58 = .ok (.iload_n 3, 1) := by decide +kernel
theorem dX7_heap_59 : decode cX7_heap 59 = .ok (.aconst_null, 1) := by decide +kernel
theorem dX7_heap_60 : decode cX7_heap 60 = .ok (.aastore, 1) := by decide +kernel
theorem dX7_heap_61 : decode cX7_heap 61 = .ok (.iinc 3 1, 3) := by decide +kernel
theorem dX7_heap_64 : decode cX7_heap 64 = .ok (.goto (-15), 3) := by decide +kernel
theorem dX7_heap_67 : decode cX7_heap 67 = .ok (.aload_n 0, 1) := by decide +kernel
theorem dX7_heap_68 : decode cX7_heap 68 = .ok (.getfield 24, 3) := by decide +kernel
theorem dX7_heap_71 : decode cX7_heap 71 = .ok (.invokevirtual 126, 3) := by decide +kernel
theorem dX7_heap_74 : decode cX7_heap 74 = .ok (.ireturn, 1) := by decide +kernel
set_option maxRecDepth 20000 in
theorem ggX7_saying_X1_hasNumber : GoodIn wsX7_saying wsX1_hasNumber := goodIn_r _ [7, 8, 66, 67, 68, 69, 70, 71, 72, 73, 74, 75] (by decide +kernel) (by decide +kernel)
set_option maxRecDepth 20000 in
theorem gX7_saying_X1_hasNumber : GoodIn wsX7_saying (wsV RX7 130 RX1 yX1_hasNumber wsX1_hasNumber) := goodIn_app (goodIn_of _ (by decide +kernel)) ggX7_saying_X1_hasNumber
set_option maxRecDepth 20000 in
theorem ggX7_saying_X1_fact : GoodIn wsX7_saying wsX1_fact := goodIn_r _ [12, 13, 14, 15, 16, 17, 18, 19, 20, 21, 6, 22, 23, 24, 25, 26, 27, 28, 29, 30, 31, 32, 33, 34, 35, 36, 37, 38, 39, 40, 41, 42, 8, 43, 44, 45, 46, 47, 48, 49, 50, 51, 52, 53, 54, 55, 66, 67, 68, 69, 70, 71, 72, 73, 74, 75] (by decide +kernel) (by decide +kernel)
set_option maxRecDepth 20000 in
theorem gX7_saying_X1_fact : GoodIn wsX7_saying (wsV RX7 131 RX1 yX1_fact wsX1_fact) := goodIn_app (goodIn_of _ (by decide +kernel)) ggX7_saying_X1_fact
theorem dX7_saying_0 : decode cX7_saying 0 = .ok (.aload_n 0, 1) := by decide +kernel
theorem dX7_saying_1 : decode cX7_saying 1 = .ok (.getfield 24, 3) := by decide +kernel
theorem dX7_saying_4 : decode cX7_saying 4 = .ok (.iload_n 1, 1) := by decide +kernel
theorem dX7_saying_5 : decode cX7_saying 5 = .ok (.invokevirtual 130, 3) := by decide +kernel
theorem dX7_saying_8 : decode cX7_saying 8 = .ok (.ifCond .eq 13, 3) := by decide +kernel
theorem dX7_saying_11 : decode cX7_saying 11 = .ok (.iload_n 2, 1) := by decide +kernel
theorem dX7_saying_12 : decode cX7_saying 12 = .ok (.ifCond .lt 9, 3) := by decide +kernel
theorem dX7_saying_15 : decode cX7_saying 15 = .ok (.iload_n 2, 1) := by decide +kernel
theorem dX7_saying_16 : decode cX7_saying 16 = .ok (.bipush 8, 2) := by decide +kernel
theorem dX7_saying_18 : decode cX7_saying 18 = .ok (.if_icmp .lt 5, 3) := by decide +kernel
theorem dX7_saying_21 : decode cX7_saying 21 = .ok (.iconst (-1), 1) := by decide +kernel
theorem dX7_saying_22 : decode cX7_saying 22 = .ok (.ireturn, 1) := by decide +kernel
theorem dX7_saying_23 : decode cX7_saying 23 = .ok (.aload_n 0, 1) := by decide +kernel
theorem dX7_saying_24 : decode cX7_saying 24 = .ok (.aload_n 0, 1) := by decide +kernel
theorem dX7_saying_25 : decode cX7_saying 25 = .ok (.getfield 24, 3) := by decide +kernel
theorem dX7_saying_28 : decode cX7_saying 28 = .ok (.iload_n 1, 1) := by decide +kernel
theorem dX7_saying_29 : decode cX7_saying 29 = .ok (.iload_n 2, 1) := by decide +kernel
theorem dX7_saying_30 : decode cX7_saying 30 = .ok (.invokevirtual 131, 3) := by decide +kernel
theorem dX7_saying_33 : decode cX7_saying 33 = .ok (.putfield 63, 3) := by decide +kernel
theorem dX7_saying_36 : decode cX7_saying 36 = .ok (.iconst 1, 1) := by decide +kernel
theorem dX7_saying_37 : decode cX7_saying 37 = .ok (.ireturn, 1) := by decide +kernel
set_option maxRecDepth 20000 in
theorem ggX7_mark_X1_hasNumber : GoodIn wsX7_mark wsX1_hasNumber := goodIn_r _ [8, 9, 130, 131, 132, 133, 134, 135, 136, 137, 138, 139] (by decide +kernel) (by decide +kernel)
set_option maxRecDepth 20000 in
theorem gX7_mark_X1_hasNumber : GoodIn wsX7_mark (wsV RX7 130 RX1 yX1_hasNumber wsX1_hasNumber) := goodIn_app (goodIn_of _ (by decide +kernel)) ggX7_mark_X1_hasNumber
set_option maxRecDepth 20000 in
theorem ggX7_mark_X1_isOf : GoodIn wsX7_mark wsX1_isOf := goodIn_r _ [13, 14, 130, 131, 132, 133, 134, 135, 136, 137, 138, 139] (by decide +kernel) (by decide +kernel)
set_option maxRecDepth 20000 in
theorem gX7_mark_X1_isOf : GoodIn wsX7_mark (wsV RX7 134 RX1 yX1_isOf wsX1_isOf) := goodIn_app (goodIn_of _ (by decide +kernel)) ggX7_mark_X1_isOf
set_option maxRecDepth 20000 in
theorem ggX7_mark_X6_note : GoodIn wsX7_mark wsX6_note := goodIn_r _ [19, 20, 21, 140, 141] (by decide +kernel) (by decide +kernel)
set_option maxRecDepth 20000 in
theorem gX7_mark_X6_note : GoodIn wsX7_mark (wsV RX7 71 RX6 yX6_note wsX6_note) := goodIn_app (goodIn_of _ (by decide +kernel)) ggX7_mark_X6_note
set_option maxRecDepth 20000 in
theorem ggX7_mark_X1_others : GoodIn wsX7_mark wsX1_others := goodIn_r _ [25, 26, 27, 28, 29, 30, 7, 31, 9, 32, 33, 34, 130, 131, 132, 133, 134, 135, 136, 137, 138, 139] (by decide +kernel) (by decide +kernel)
set_option maxRecDepth 20000 in
theorem gX7_mark_X1_others : GoodIn wsX7_mark (wsV RX7 138 RX1 yX1_others wsX1_others) := goodIn_app (goodIn_of _ (by decide +kernel)) ggX7_mark_X1_others
set_option maxRecDepth 20000 in
theorem ggX7_mark_X7_bitsBelow : GoodIn wsX7_mark wsX7_bitsBelow := goodIn_r _ [37, 38, 32, 33, 34] (by decide +kernel) (by decide +kernel)
set_option maxRecDepth 20000 in
theorem gX7_mark_X7_bitsBelow : GoodIn wsX7_mark (va_wsS RX7 141 yX7_bitsBelow wsX7_bitsBelow) := goodIn_app (goodIn_of _ (by decide +kernel)) ggX7_mark_X7_bitsBelow
set_option maxRecDepth 20000 in
theorem ggX7_mark_J6_bitCount_0f7a4 : GoodIn wsX7_mark wsJ6_bitCount_0f7a4 := goodIn_r _ [42, 43, 44, 45] (by decide +kernel) (by decide +kernel)
set_option maxRecDepth 20000 in
theorem gX7_mark_J6_bitCount_0f7a4 : GoodIn wsX7_mark (va_wsS RX7 144 yJ6_bitCount_0f7a4 wsJ6_bitCount_0f7a4) := goodIn_app (goodIn_of _ (by decide +kernel)) ggX7_mark_J6_bitCount_0f7a4
set_option maxRecDepth 20000 in
theorem ggX7_mark_X0_suspects : GoodIn wsX7_mark wsX0_suspects := goodIn_r _ [50, 51, 52, 53, 7, 54, 55, 56, 5, 6, 8, 9, 57, 58, 59, 60, 27, 32, 33, 34, 61, 62, 63, 64, 26, 65, 66, 67, 68, 130, 131, 132, 133, 134, 135, 136, 137, 138, 139] (by decide +kernel) (by decide +kernel)
set_option maxRecDepth 20000 in
theorem gX7_mark_X0_suspects : GoodIn wsX7_mark (wsV RX7 149 RX0 yX0_suspects wsX0_suspects) := goodIn_app (goodIn_of _ (by decide +kernel)) ggX7_mark_X0_suspects
set_option maxRecDepth 20000 in
theorem ggX7_mark_X1_priceNow : GoodIn wsX7_mark wsX1_priceNow := goodIn_r _ [72, 73, 74, 75, 76, 7, 77, 78, 23, 24, 25, 26, 27, 28, 29, 30, 31, 9, 32, 33, 34, 79, 40, 41, 42, 43, 44, 45, 80, 81, 82, 83, 14, 84, 85, 130, 131, 132, 133, 134, 135, 136, 137, 138, 139] (by decide +kernel) (by decide +kernel)
set_option maxRecDepth 20000 in
theorem gX7_mark_X1_priceNow : GoodIn wsX7_mark (wsV RX7 153 RX1 yX1_priceNow wsX1_priceNow) := goodIn_app (goodIn_of _ (by decide +kernel)) ggX7_mark_X1_priceNow
set_option maxRecDepth 20000 in
theorem ggX7_mark_X1_heatNow : GoodIn wsX7_mark wsX1_heatNow := goodIn_r _ [89, 73, 78, 23, 24, 7, 25, 26, 27, 28, 29, 30, 31, 9, 32, 33, 34, 79, 40, 41, 42, 43, 44, 45, 130, 131, 132, 133, 134, 135, 136, 137, 138, 139] (by decide +kernel) (by decide +kernel)
set_option maxRecDepth 20000 in
theorem gX7_mark_X1_heatNow : GoodIn wsX7_mark (wsV RX7 156 RX1 yX1_heatNow wsX1_heatNow) := goodIn_app (goodIn_of _ (by decide +kernel)) ggX7_mark_X1_heatNow
set_option maxRecDepth 20000 in
theorem ggX7_mark_X1_weightOf : GoodIn wsX7_mark wsX1_weightOf := goodIn_r _ [93, 85, 130, 131, 132, 133, 134, 135, 136, 137, 138, 139] (by decide +kernel) (by decide +kernel)
set_option maxRecDepth 20000 in
theorem gX7_mark_X1_weightOf : GoodIn wsX7_mark (wsV RX7 159 RX1 yX1_weightOf wsX1_weightOf) := goodIn_app (goodIn_of _ (by decide +kernel)) ggX7_mark_X1_weightOf
set_option maxRecDepth 20000 in
theorem ggX7_mark_X1_answerers : GoodIn wsX7_mark wsX1_answerers := goodIn_r _ [97, 9, 55, 32, 33, 34, 130, 131, 132, 133, 134, 135, 136, 137, 138, 139] (by decide +kernel) (by decide +kernel)
set_option maxRecDepth 20000 in
theorem gX7_mark_X1_answerers : GoodIn wsX7_mark (wsV RX7 162 RX1 yX1_answerers wsX1_answerers) := goodIn_app (goodIn_of _ (by decide +kernel)) ggX7_mark_X1_answerers
set_option maxRecDepth 20000 in
theorem ggX7_mark_X1_saidBits : GoodIn wsX7_mark wsX1_saidBits := goodIn_r _ [101, 73, 130, 131, 132, 133, 134, 135, 136, 137, 138, 139] (by decide +kernel) (by decide +kernel)
set_option maxRecDepth 20000 in
theorem gX7_mark_X1_saidBits : GoodIn wsX7_mark (wsV RX7 165 RX1 yX1_saidBits wsX1_saidBits) := goodIn_app (goodIn_of _ (by decide +kernel)) ggX7_mark_X1_saidBits
set_option maxRecDepth 20000 in
theorem ggX7_mark_X1_alikeInBundle : GoodIn wsX7_mark wsX1_alikeInBundle := goodIn_r _ [105, 9, 84, 106, 107, 108, 7, 109, 110, 111, 112, 113, 55, 114, 5, 6, 8, 32, 33, 34, 115, 116, 117, 118, 119, 130, 131, 132, 133, 134, 135, 136, 137, 138, 139] (by decide +kernel) (by decide +kernel)
set_option maxRecDepth 20000 in
theorem gX7_mark_X1_alikeInBundle : GoodIn wsX7_mark (wsV RX7 168 RX1 yX1_alikeInBundle wsX1_alikeInBundle) := goodIn_app (goodIn_of _ (by decide +kernel)) ggX7_mark_X1_alikeInBundle
theorem dX7_mark_0 : decode cX7_mark 0 = .ok (.aload_n 0, 1) := by decide +kernel
theorem dX7_mark_1 : decode cX7_mark 1 = .ok (.getfield 24, 3) := by decide +kernel
theorem dX7_mark_4 : decode cX7_mark 4 = .ok (.iload_n 1, 1) := by decide +kernel
theorem dX7_mark_5 : decode cX7_mark 5 = .ok (.invokevirtual 130, 3) := by decide +kernel
theorem dX7_mark_8 : decode cX7_mark 8 = .ok (.ifCond .eq 13, 3) := by decide +kernel
theorem dX7_mark_11 : decode cX7_mark 11 = .ok (.iload_n 2, 1) := by decide +kernel
theorem dX7_mark_12 : decode cX7_mark 12 = .ok (.ifCond .le 9, 3) := by decide +kernel
theorem dX7_mark_15 : decode cX7_mark 15 = .ok (.iload_n 2, 1) := by decide +kernel
theorem dX7_mark_16 : decode cX7_mark 16 = .ok (.bipush 6, 2) := by decide +kernel
theorem dX7_mark_18 : decode cX7_mark 18 = .ok (.if_icmp .lt 5, 3) := by decide +kernel
theorem dX7_mark_21 : decode cX7_mark 21 = .ok (.iconst (-1), 1) := by decide +kernel
theorem dX7_mark_22 : decode cX7_mark 22 = .ok (.ireturn, 1) := by decide +kernel
theorem dX7_mark_23 : decode cX7_mark 23 = .ok (.aload_n 0, 1) := by decide +kernel
theorem dX7_mark_24 : decode cX7_mark 24 = .ok (.getfield 24, 3) := by decide +kernel
theorem dX7_mark_27 : decode cX7_mark 27 = .ok (.iload_n 1, 1) := by decide +kernel
theorem dX7_mark_28 : decode cX7_mark 28 = .ok (.iload_n 2, 1) := by decide +kernel
theorem dX7_mark_29 : decode cX7_mark 29 = .ok (.invokevirtual 134, 3) := by decide +kernel
theorem dX7_mark_32 : decode cX7_mark 32 = .ok (.ifCond .ne 12, 3) := by decide +kernel
theorem dX7_mark_35 : decode cX7_mark 35 = .ok (.aload_n 0, 1) := by decide +kernel
theorem dX7_mark_36 : decode cX7_mark 36 = .ok (.getfield 59, 3) := by decide +kernel
theorem dX7_mark_39 : decode cX7_mark 39 = .ok (.iconst 3, 1) := by decide +kernel
theorem dX7_mark_40 : decode cX7_mark 40 = .ok (.invokevirtual 71, 3) := by decide +kernel
theorem dX7_mark_43 : decode cX7_mark 43 = .ok (.ireturn, 1) := by decide +kernel
theorem dX7_mark_44 : decode cX7_mark 44 = .ok (.iload_n 2, 1) := by decide +kernel
theorem dX7_mark_45 : decode cX7_mark 45 = .ok (.tableswitch 114 1 4 #[31, 48, 64, 94], 31) := by decide +kernel
theorem dX7_mark_76 : decode cX7_mark 76 = .ok (.aload_n 0, 1) := by decide +kernel
theorem dX7_mark_77 : decode cX7_mark 77 = .ok (.getfield 24, 3) := by decide +kernel
theorem dX7_mark_80 : decode cX7_mark 80 = .ok (.iload_n 1, 1) := by decide +kernel
theorem dX7_mark_81 : decode cX7_mark 81 = .ok (.invokevirtual 138, 3) := by decide +kernel
theorem dX7_mark_84 : decode cX7_mark 84 = .ok (.iload_n 1, 1) := by decide +kernel
theorem dX7_mark_85 : decode cX7_mark 85 = .ok (.invokestatic 141, 3) := by decide +kernel
theorem dX7_mark_88 : decode cX7_mark 88 = .ok (.iand, 1) := by decide +kernel
theorem dX7_mark_89 : decode cX7_mark 89 = .ok (.invokestatic 144, 3) := by decide +kernel
theorem dX7_mark_92 : decode cX7_mark 92 = .ok (.ireturn, 1) := by decide +kernel
theorem dX7_mark_93 : decode cX7_mark 93 = .ok (.aload_n 0, 1) := by decide +kernel
theorem dX7_mark_94 : decode cX7_mark 94 = .ok (.getfield 45, 3) := by decide +kernel
theorem dX7_mark_97 : decode cX7_mark 97 = .ok (.aload_n 0, 1) := by decide +kernel
theorem dX7_mark_98 : decode cX7_mark 98 = .ok (.getfield 24, 3) := by decide +kernel
theorem dX7_mark_101 : decode cX7_mark 101 = .ok (.iload_n 1, 1) := by decide +kernel
theorem dX7_mark_102 : decode cX7_mark 102 = .ok (.invokevirtual 149, 3) := by decide +kernel
theorem dX7_mark_105 : decode cX7_mark 105 = .ok (.invokestatic 144, 3) := by decide +kernel
theorem dX7_mark_108 : decode cX7_mark 108 = .ok (.ireturn, 1) := by decide +kernel
theorem dX7_mark_109 : decode cX7_mark 109 = .ok (.aload_n 0, 1) := by decide +kernel
theorem dX7_mark_110 : decode cX7_mark 110 = .ok (.getfield 24, 3) := by decide +kernel
theorem dX7_mark_113 : decode cX7_mark 113 = .ok (.iload_n 1, 1) := by decide +kernel
theorem dX7_mark_114 : decode cX7_mark 114 = .ok (.invokevirtual 153, 3) := by decide +kernel
theorem dX7_mark_117 : decode cX7_mark 117 = .ok (.aload_n 0, 1) := by decide +kernel
theorem dX7_mark_118 : decode cX7_mark 118 = .ok (.getfield 24, 3) := by decide +kernel
theorem dX7_mark_121 : decode cX7_mark 121 = .ok (.iload_n 1, 1) := by decide +kernel
theorem dX7_mark_122 : decode cX7_mark 122 = .ok (.invokevirtual 156, 3) := by decide +kernel
theorem dX7_mark_125 : decode cX7_mark 125 = .ok (.isub, 1) := by decide +kernel
theorem dX7_mark_126 : decode cX7_mark 126 = .ok (.aload_n 0, 1) := by decide +kernel
theorem dX7_mark_127 : decode cX7_mark 127 = .ok (.getfield 24, 3) := by decide +kernel
theorem dX7_mark_130 : decode cX7_mark 130 = .ok (.iload_n 1, 1) := by decide +kernel
theorem dX7_mark_131 : decode cX7_mark 131 = .ok (.invokevirtual 159, 3) := by decide +kernel
theorem dX7_mark_134 : decode cX7_mark 134 = .ok (.isub, 1) := by decide +kernel
theorem dX7_mark_135 : decode cX7_mark 135 = .ok (.bipush 100, 2) := by decide +kernel
theorem dX7_mark_137 : decode cX7_mark 137 = .ok (.iadd, 1) := by decide +kernel
theorem dX7_mark_138 : decode cX7_mark 138 = .ok (.ireturn, 1) := by decide +kernel
theorem dX7_mark_139 : decode cX7_mark 139 = .ok (.aload_n 0, 1) := by decide +kernel
theorem dX7_mark_140 : decode cX7_mark 140 = .ok (.getfield 24, 3) := by decide +kernel
theorem dX7_mark_143 : decode cX7_mark 143 = .ok (.iload_n 1, 1) := by decide +kernel
theorem dX7_mark_144 : decode cX7_mark 144 = .ok (.invokevirtual 162, 3) := by decide +kernel
theorem dX7_mark_147 : decode cX7_mark 147 = .ok (.aload_n 0, 1) := by decide +kernel
theorem dX7_mark_148 : decode cX7_mark 148 = .ok (.getfield 24, 3) := by decide +kernel
theorem dX7_mark_151 : decode cX7_mark 151 = .ok (.invokevirtual 165, 3) := by decide +kernel
theorem dX7_mark_154 : decode cX7_mark 154 = .ok (.iand, 1) := by decide +kernel
theorem dX7_mark_155 : decode cX7_mark 155 = .ok (.invokestatic 144, 3) := by decide +kernel
theorem dX7_mark_158 : decode cX7_mark 158 = .ok (.ireturn, 1) := by decide +kernel
theorem dX7_mark_159 : decode cX7_mark 159 = .ok (.aload_n 0, 1) := by decide +kernel
theorem dX7_mark_160 : decode cX7_mark 160 = .ok (.getfield 24, 3) := by decide +kernel
theorem dX7_mark_163 : decode cX7_mark 163 = .ok (.iload_n 1, 1) := by decide +kernel
theorem dX7_mark_164 : decode cX7_mark 164 = .ok (.invokevirtual 168, 3) := by decide +kernel
theorem dX7_mark_167 : decode cX7_mark 167 = .ok (.ireturn, 1) := by decide +kernel
set_option maxRecDepth 20000 in
theorem ggX7_say_X1_hasNumber : GoodIn wsX7_say wsX1_hasNumber := goodIn_r _ [6, 7, 56, 57, 58, 59, 60, 61, 62, 63, 64, 65] (by decide +kernel) (by decide +kernel)
set_option maxRecDepth 20000 in
theorem gX7_say_X1_hasNumber : GoodIn wsX7_say (wsV RX7 130 RX1 yX1_hasNumber wsX1_hasNumber) := goodIn_app (goodIn_of _ (by decide +kernel)) ggX7_say_X1_hasNumber
set_option maxRecDepth 20000 in
theorem ggX7_say_X1_isFull : GoodIn wsX7_say wsX1_isFull := goodIn_r _ [11, 7, 56, 57, 58, 59, 60, 61, 62, 63, 64, 65] (by decide +kernel) (by decide +kernel)
set_option maxRecDepth 20000 in
theorem gX7_say_X1_isFull : GoodIn wsX7_say (wsV RX7 171 RX1 yX1_isFull wsX1_isFull) := goodIn_app (goodIn_of _ (by decide +kernel)) ggX7_say_X1_isFull
set_option maxRecDepth 20000 in
theorem ggX7_say_X1_deedsAreFull : GoodIn wsX7_say wsX1_deedsAreFull := goodIn_r _ [15, 16, 56, 57, 58, 59, 60, 61, 62, 63, 64, 65] (by decide +kernel) (by decide +kernel)
set_option maxRecDepth 20000 in
theorem gX7_say_X1_deedsAreFull : GoodIn wsX7_say (wsV RX7 175 RX1 yX1_deedsAreFull wsX1_deedsAreFull) := goodIn_app (goodIn_of _ (by decide +kernel)) ggX7_say_X1_deedsAreFull
set_option maxRecDepth 20000 in
theorem ggX7_say_X1_add : GoodIn wsX7_say wsX1_add := goodIn_r _ [20, 21, 7, 22, 23, 24, 25, 26, 27, 28, 9, 10, 5, 11, 29, 30, 31, 56, 57, 58, 59, 60, 61, 62, 63, 64, 65] (by decide +kernel) (by decide +kernel)
set_option maxRecDepth 20000 in
theorem gX7_say_X1_add : GoodIn wsX7_say (wsV RX7 178 RX1 yX1_add wsX1_add) := goodIn_app (goodIn_of _ (by decide +kernel)) ggX7_say_X1_add
set_option maxRecDepth 20000 in
theorem ggX7_say_X1_noteComing : GoodIn wsX7_say wsX1_noteComing := goodIn_r _ [35, 36, 37, 38, 5, 39, 40, 16, 41, 13, 14, 15, 56, 57, 58, 59, 60, 61, 62, 63, 64, 65] (by decide +kernel) (by decide +kernel)
set_option maxRecDepth 20000 in
theorem gX7_say_X1_noteComing : GoodIn wsX7_say (wsV RX7 182 RX1 yX1_noteComing wsX1_noteComing) := goodIn_app (goodIn_of _ (by decide +kernel)) ggX7_say_X1_noteComing
set_option maxRecDepth 20000 in
theorem ggX7_say_X1_howMany : GoodIn wsX7_say wsX1_howMany := goodIn_r _ [45, 7, 56, 57, 58, 59, 60, 61, 62, 63, 64, 65] (by decide +kernel) (by decide +kernel)
set_option maxRecDepth 20000 in
theorem gX7_say_X1_howMany : GoodIn wsX7_say (wsV RX7 126 RX1 yX1_howMany wsX1_howMany) := goodIn_app (goodIn_of _ (by decide +kernel)) ggX7_say_X1_howMany
theorem dX7_say_0 : decode cX7_say 0 = .ok (.aload_n 0, 1) := by decide +kernel
theorem dX7_say_1 : decode cX7_say 1 = .ok (.getfield 24, 3) := by decide +kernel
theorem dX7_say_4 : decode cX7_say 4 = .ok (.iload 4, 2) := by decide +kernel
theorem dX7_say_6 : decode cX7_say 6 = .ok (.invokevirtual 130, 3) := by decide +kernel
theorem dX7_say_9 : decode cX7_say 9 = .ok (.istore 5, 2) := by decide +kernel
theorem dX7_say_11 : decode cX7_say 11 = .ok (.iload_n 1, 1) := by decide +kernel
theorem dX7_say_12 : decode cX7_say 12 = .ok (.ifCond .lt 32, 3) := by decide +kernel
theorem dX7_say_15 : decode cX7_say 15 = .ok (.iload_n 1, 1) := by decide +kernel
theorem dX7_say_16 : decode cX7_say 16 = .ok (.bipush 6, 2) := by decide +kernel
theorem dX7_say_18 : decode cX7_say 18 = .ok (.if_icmp .ge 26, 3) := by decide +kernel
theorem dX7_say_21 : decode cX7_say 21 = .ok (.iload_n 3, 1) := by decide +kernel
theorem dX7_say_22 : decode cX7_say 22 = .ok (.iconst 1, 1) := by decide +kernel
theorem dX7_say_23 : decode cX7_say 23 = .ok (.if_icmp .lt 21, 3) := by decide +kernel
theorem dX7_say_26 : decode cX7_say 26 = .ok (.iload_n 3, 1) := by decide +kernel
theorem dX7_say_27 : decode cX7_say 27 = .ok (.bipush 9, 2) := by decide +kernel
theorem dX7_say_29 : decode cX7_say 29 = .ok (.if_icmp .gt 15, 3) := by decide +kernel
theorem dX7_say_32 : decode cX7_say 32 = .ok (.iload 5, 2) := by decide +kernel
theorem dX7_say_34 : decode cX7_say 34 = .ok (.ifCond .ne 12, 3) := by decide +kernel
theorem dX7_say_37 : decode cX7_say 37 = .ok (.iload 4, 2) := by decide +kernel
theorem dX7_say_39 : decode cX7_say 39 = .ok (.bipush (-9), 2) := by decide +kernel
theorem dX7_say_41 : decode cX7_say 41 = .ok (.if_icmp .eq 5, 3) := by decide +kernel
theorem dX7_say_44 : decode cX7_say 44 = .ok (.iconst (-1), 1) := by decide +kernel
theorem dX7_say_45 : decode cX7_say 45 = .ok (.ireturn, 1) := by decide +kernel
theorem dX7_say_46 : decode cX7_say 46 = .ok (.iload_n 2, 1) := by decide +kernel
theorem dX7_say_47 : decode cX7_say 47 = .ok (.bipush 100, 2) := by decide +kernel
theorem dX7_say_49 : decode cX7_say 49 = .ok (.idiv, 1) := by decide +kernel
theorem dX7_say_50 : decode cX7_say 50 = .ok (.istore 6, 2) := by decide +kernel
theorem dX7_say_52 : decode cX7_say 52 = .ok (.iload_n 2, 1) := by decide +kernel
theorem dX7_say_53 : decode cX7_say 53 = .ok (.bipush 10, 2) := by decide +kernel
theorem dX7_say_55 : decode cX7_say 55 = .ok (.idiv, 1) := by decide +kernel
theorem dX7_say_56 : decode cX7_say 56 = .ok (.bipush 10, 2) := by decide +kernel
theorem dX7_say_58 : decode cX7_say 58 = .ok (.irem, 1) := by decide +kernel
theorem dX7_say_59 : decode cX7_say 59 = .ok (.istore 7, 2) := by decide +kernel
theorem dX7_say_61 : decode cX7_say 61 = .ok (.iload_n 2, 1) := by decide +kernel
theorem dX7_say_62 : decode cX7_say 62 = .ok (.bipush 10, 2) := by decide +kernel
theorem dX7_say_64 : decode cX7_say 64 = .ok (.irem, 1) := by decide +kernel
theorem dX7_say_65 : decode cX7_say 65 = .ok (.istore 8, 2) := by decide +kernel
theorem dX7_say_67 : decode cX7_say 67 = .ok (.iload_n 2, 1) := by decide +kernel
theorem dX7_say_68 : decode cX7_say 68 = .ok (.ifCond .lt 31, 3) := by decide +kernel
theorem dX7_say_71 : decode cX7_say 71 = .ok (.iload 6, 2) := by decide +kernel
theorem dX7_say_73 : decode cX7_say 73 = .ok (.bipush 6, 2) := by decide +kernel
theorem dX7_say_75 : decode cX7_say 75 = .ok (.if_icmp .ge 24, 3) := by decide +kernel
theorem dX7_say_78 : decode cX7_say 78 = .ok (.iload 7, 2) := by decide +kernel
theorem dX7_say_80 : decode cX7_say 80 = .ok (.bipush 6, 2) := by decide +kernel
theorem dX7_say_82 : decode cX7_say 82 = .ok (.if_icmp .ge 17, 3) := by decide +kernel
theorem dX7_say_85 : decode cX7_say 85 = .ok (.iload 6, 2) := by decide +kernel
theorem dX7_say_87 : decode cX7_say 87 = .ok (.iload 7, 2) := by decide +kernel
theorem dX7_say_89 : decode cX7_say 89 = .ok (.if_icmp .eq 10, 3) := by decide +kernel
theorem dX7_say_92 : decode cX7_say 92 = .ok (.iload 8, 2) := by decide +kernel
theorem dX7_say_94 : decode cX7_say 94 = .ok (.bipush 6, 2) := by decide +kernel
theorem dX7_say_96 : decode cX7_say 96 = .ok (.if_icmp .lt 5, 3) := by decide +kernel
theorem dX7_say_99 : decode cX7_say 99 = .ok (.iconst (-1), 1) := by decide +kernel
theorem dX7_say_100 : decode cX7_say 100 = .ok (.ireturn, 1) := by decide +kernel
theorem dX7_say_101 : decode cX7_say 101 = .ok (.aload_n 0, 1) := by decide +kernel
theorem dX7_say_102 : decode cX7_say 102 = .ok (.getfield 24, 3) := by decide +kernel
theorem dX7_say_105 : decode cX7_say 105 = .ok (.invokevirtual 171, 3) := by decide +kernel
theorem dX7_say_108 : decode cX7_say 108 = .ok (.ifCond .ne 13, 3) := by decide +kernel
theorem dX7_say_111 : decode cX7_say 111 = .ok (.aload_n 0, 1) := by decide +kernel
theorem dX7_say_112 : decode cX7_say 112 = .ok (.getfield 24, 3) := by decide +kernel
theorem dX7_say_115 : decode cX7_say 115 = .ok (.invokevirtual 175, 3) := by decide +kernel
theorem dX7_say_118 : decode cX7_say 118 = .ok (.ifCond .eq 6, 3) := by decide +kernel
theorem dX7_say_121 : decode cX7_say 121 = .ok (.bipush (-2), 2) := by decide +kernel
theorem dX7_say_123 : decode cX7_say 123 = .ok (.ireturn, 1) := by decide +kernel
theorem dX7_say_124 : decode cX7_say 124 = .ok (.aload_n 0, 1) := by decide +kernel
theorem dX7_say_125 : decode cX7_say 125 = .ok (.getfield 24, 3) := by decide +kernel
theorem dX7_say_128 : decode cX7_say 128 = .ok (.iload_n 1, 1) := by decide +kernel
theorem dX7_say_129 : decode cX7_say 129 = .ok (.iload 6, 2) := by decide +kernel
theorem dX7_say_131 : decode cX7_say 131 = .ok (.iload 7, 2) := by decide +kernel
theorem dX7_say_133 : decode cX7_say 133 = .ok (.iload 8, 2) := by decide +kernel
theorem dX7_say_135 : decode cX7_say 135 = .ok (.iload_n 3, 1) := by decide +kernel
theorem dX7_say_136 : decode cX7_say 136 = .ok (.iload 4, 2) := by decide +kernel
theorem dX7_say_138 : decode cX7_say 138 = .ok (.invokevirtual 178, 3) := by decide +kernel
theorem dX7_say_141 : decode cX7_say 141 = .ok (.aload_n 0, 1) := by decide +kernel
theorem dX7_say_142 : decode cX7_say 142 = .ok (.getfield 24, 3) := by decide +kernel
theorem dX7_say_145 : decode cX7_say 145 = .ok (.invokevirtual 182, 3) := by decide +kernel
theorem dX7_say_148 : decode cX7_say 148 = .ok (.aload_n 0, 1) := by decide +kernel
theorem dX7_say_149 : decode cX7_say 149 = .ok (.getfield 24, 3) := by decide +kernel
theorem dX7_say_152 : decode cX7_say 152 = .ok (.invokevirtual 126, 3) := by decide +kernel
theorem dX7_say_155 : decode cX7_say 155 = .ok (.iconst 1, 1) := by decide +kernel
theorem dX7_say_156 : decode cX7_say 156 = .ok (.isub, 1) := by decide +kernel
theorem dX7_say_157 : decode cX7_say 157 = .ok (.ireturn, 1) := by decide +kernel
set_option maxRecDepth 20000 in
theorem ggX7_unsay_X1_hasNumber : GoodIn wsX7_unsay wsX1_hasNumber := goodIn_r _ [6, 7, 89, 90, 91, 92, 93, 94, 95, 96, 97, 98] (by decide +kernel) (by decide +kernel)
set_option maxRecDepth 20000 in
theorem gX7_unsay_X1_hasNumber : GoodIn wsX7_unsay (wsV RX7 130 RX1 yX1_hasNumber wsX1_hasNumber) := goodIn_app (goodIn_of _ (by decide +kernel)) ggX7_unsay_X1_hasNumber
set_option maxRecDepth 20000 in
theorem ggX7_unsay_X1_saidBits : GoodIn wsX7_unsay wsX1_saidBits := goodIn_r _ [11, 12, 89, 90, 91, 92, 93, 94, 95, 96, 97, 98] (by decide +kernel) (by decide +kernel)
set_option maxRecDepth 20000 in
theorem gX7_unsay_X1_saidBits : GoodIn wsX7_unsay (wsV RX7 165 RX1 yX1_saidBits wsX1_saidBits) := goodIn_app (goodIn_of _ (by decide +kernel)) ggX7_unsay_X1_saidBits
set_option maxRecDepth 20000 in
theorem ggX7_unsay_X1_mayGo : GoodIn wsX7_unsay wsX1_mayGo := goodIn_r _ [16, 17, 18, 19, 20, 21, 22, 5, 23, 24, 25, 26, 27, 28, 7, 29, 30, 31, 89, 90, 91, 92, 93, 94, 95, 96, 97, 98] (by decide +kernel) (by decide +kernel)
set_option maxRecDepth 20000 in
theorem gX7_unsay_X1_mayGo : GoodIn wsX7_unsay (wsV RX7 185 RX1 yX1_mayGo wsX1_mayGo) := goodIn_app (goodIn_of _ (by decide +kernel)) ggX7_unsay_X1_mayGo
set_option maxRecDepth 20000 in
theorem ggX7_unsay_X1_deedsAreFull : GoodIn wsX7_unsay wsX1_deedsAreFull := goodIn_r _ [35, 36, 89, 90, 91, 92, 93, 94, 95, 96, 97, 98] (by decide +kernel) (by decide +kernel)
set_option maxRecDepth 20000 in
theorem gX7_unsay_X1_deedsAreFull : GoodIn wsX7_unsay (wsV RX7 175 RX1 yX1_deedsAreFull wsX1_deedsAreFull) := goodIn_app (goodIn_of _ (by decide +kernel)) ggX7_unsay_X1_deedsAreFull
set_option maxRecDepth 20000 in
theorem ggX7_unsay_X1_takeBack : GoodIn wsX7_unsay wsX1_takeBack := goodIn_r _ [40, 12, 41, 3, 4, 5, 6, 7, 42, 43, 44, 45, 46, 47, 48, 49, 50, 51, 52, 53, 54, 55, 56, 57, 58, 59, 30, 18, 31, 60, 61, 62, 63, 64, 65, 66, 67, 68, 69, 70, 24, 71, 72, 73, 74, 75, 76, 77, 36, 78, 33, 34, 35, 89, 90, 91, 92, 93, 94, 95, 96, 97, 98] (by decide +kernel) (by decide +kernel)
set_option maxRecDepth 20000 in
theorem gX7_unsay_X1_takeBack : GoodIn wsX7_unsay (wsV RX7 188 RX1 yX1_takeBack wsX1_takeBack) := goodIn_app (goodIn_of _ (by decide +kernel)) ggX7_unsay_X1_takeBack
theorem dX7_unsay_0 : decode cX7_unsay 0 = .ok (.aload_n 0, 1) := by decide +kernel
theorem dX7_unsay_1 : decode cX7_unsay 1 = .ok (.getfield 24, 3) := by decide +kernel
theorem dX7_unsay_4 : decode cX7_unsay 4 = .ok (.iload_n 1, 1) := by decide +kernel
theorem dX7_unsay_5 : decode cX7_unsay 5 = .ok (.invokevirtual 130, 3) := by decide +kernel
theorem dX7_unsay_8 : decode cX7_unsay 8 = .ok (.ifCond .ne 5, 3) := by decide +kernel
theorem dX7_unsay_11 : decode cX7_unsay 11 = .ok (.iconst (-1), 1) := by decide +kernel
theorem dX7_unsay_12 : decode cX7_unsay 12 = .ok (.ireturn, 1) := by decide +kernel
theorem dX7_unsay_13 : decode cX7_unsay 13 = .ok (.aload_n 0, 1) := by decide +kernel
theorem dX7_unsay_14 : decode cX7_unsay 14 = .ok (.getfield 24, 3) := by decide +kernel
theorem dX7_unsay_17 : decode cX7_unsay 17 = .ok (.iload_n 1, 1) := by decide +kernel
theorem dX7_unsay_18 : decode cX7_unsay 18 = .ok (.aload_n 0, 1) := by decide +kernel
theorem dX7_unsay_19 : decode cX7_unsay 19 = .ok (.getfield 24, 3) := by decide +kernel
theorem dX7_unsay_22 : decode cX7_unsay 22 = .ok (.invokevirtual 165, 3) := by decide +kernel
theorem dX7_unsay_25 : decode cX7_unsay 25 = .ok (.invokevirtual 185, 3) := by decide +kernel
theorem dX7_unsay_28 : decode cX7_unsay 28 = .ok (.ifCond .ne 6, 3) := by decide +kernel
theorem dX7_unsay_31 : decode cX7_unsay 31 = .ok (.bipush (-4), 2) := by decide +kernel
theorem dX7_unsay_33 : decode cX7_unsay 33 = .ok (.ireturn, 1) := by decide +kernel
theorem dX7_unsay_34 : decode cX7_unsay 34 = .ok (.aload_n 0, 1) := by decide +kernel
theorem dX7_unsay_35 : decode cX7_unsay 35 = .ok (.getfield 24, 3) := by decide +kernel
theorem dX7_unsay_38 : decode cX7_unsay 38 = .ok (.invokevirtual 175, 3) := by decide +kernel
theorem dX7_unsay_41 : decode cX7_unsay 41 = .ok (.ifCond .eq 6, 3) := by decide +kernel
theorem dX7_unsay_44 : decode cX7_unsay 44 = .ok (.bipush (-2), 2) := by decide +kernel
theorem dX7_unsay_46 : decode cX7_unsay 46 = .ok (.ireturn, 1) := by decide +kernel
theorem dX7_unsay_47 : decode cX7_unsay 47 = .ok (.aload_n 0, 1) := by decide +kernel
theorem dX7_unsay_48 : decode cX7_unsay 48 = .ok (.getfield 24, 3) := by decide +kernel
theorem dX7_unsay_51 : decode cX7_unsay 51 = .ok (.iload_n 1, 1) := by decide +kernel
theorem dX7_unsay_52 : decode cX7_unsay 52 = .ok (.invokevirtual 188, 3) := by decide +kernel
theorem dX7_unsay_55 : decode cX7_unsay 55 = .ok (.ireturn, 1) := by decide +kernel
set_option maxRecDepth 20000 in
theorem ggX7_undo_X1_howManyDeeds : GoodIn wsX7_undo wsX1_howManyDeeds := goodIn_r _ [6, 7, 28, 29, 30, 31, 32, 33, 34, 35, 36, 37] (by decide +kernel) (by decide +kernel)
set_option maxRecDepth 20000 in
theorem gX7_undo_X1_howManyDeeds : GoodIn wsX7_undo (wsV RX7 191 RX1 yX1_howManyDeeds wsX1_howManyDeeds) := goodIn_app (goodIn_of _ (by decide +kernel)) ggX7_undo_X1_howManyDeeds
set_option maxRecDepth 20000 in
theorem ggX7_undo_X1_undoFrom : GoodIn wsX7_undo wsX1_undoFrom := goodIn_r _ [11, 7, 12, 13, 14, 15, 16, 17, 28, 29, 30, 31, 32, 33, 34, 35, 36, 37] (by decide +kernel) (by decide +kernel)
set_option maxRecDepth 20000 in
theorem gX7_undo_X1_undoFrom : GoodIn wsX7_undo (wsV RX7 194 RX1 yX1_undoFrom wsX1_undoFrom) := goodIn_app (goodIn_of _ (by decide +kernel)) ggX7_undo_X1_undoFrom
theorem dX7_undo_0 : decode cX7_undo 0 = .ok (.aload_n 0, 1) := by decide +kernel
theorem dX7_undo_1 : decode cX7_undo 1 = .ok (.getfield 24, 3) := by decide +kernel
theorem dX7_undo_4 : decode cX7_undo 4 = .ok (.invokevirtual 191, 3) := by decide +kernel
theorem dX7_undo_7 : decode cX7_undo 7 = .ok (.istore_n 2, 1) := by decide +kernel
theorem dX7_undo_8 : decode cX7_undo 8 = .ok (.iload_n 1, 1) := by decide +kernel
theorem dX7_undo_9 : decode cX7_undo 9 = .ok (.ifCond .lt 8, 3) := by decide +kernel
theorem dX7_undo_12 : decode cX7_undo 12 = .ok (.iload_n 1, 1) := by decide +kernel
theorem dX7_undo_13 : decode cX7_undo 13 = .ok (.iload_n 2, 1) := by decide +kernel
theorem dX7_undo_14 : decode cX7_undo 14 = .ok (.if_icmp .le 5, 3) := by decide +kernel
theorem dX7_undo_17 : decode cX7_undo 17 = .ok (.iconst (-1), 1) := by decide +kernel
theorem dX7_undo_18 : decode cX7_undo 18 = .ok (.ireturn, 1) := by decide +kernel
theorem dX7_undo_19 : decode cX7_undo 19 = .ok (.aload_n 0, 1) := by decide +kernel
theorem dX7_undo_20 : decode cX7_undo 20 = .ok (.getfield 24, 3) := by decide +kernel
theorem dX7_undo_23 : decode cX7_undo 23 = .ok (.iload_n 1, 1) := by decide +kernel
theorem dX7_undo_24 : decode cX7_undo 24 = .ok (.invokevirtual 194, 3) := by decide +kernel
theorem dX7_undo_27 : decode cX7_undo 27 = .ok (.iload_n 2, 1) := by decide +kernel
theorem dX7_undo_28 : decode cX7_undo 28 = .ok (.iload_n 1, 1) := by decide +kernel
theorem dX7_undo_29 : decode cX7_undo 29 = .ok (.isub, 1) := by decide +kernel
theorem dX7_undo_30 : decode cX7_undo 30 = .ok (.ireturn, 1) := by decide +kernel
set_option maxRecDepth 20000 in
theorem ggX7_said_X1_saidBits : GoodIn wsX7_said wsX1_saidBits := goodIn_r _ [7, 8, 43, 44, 45, 46, 47, 48, 49, 50, 51, 52] (by decide +kernel) (by decide +kernel)
set_option maxRecDepth 20000 in
theorem gX7_said_X1_saidBits : GoodIn wsX7_said (wsV RX7 165 RX1 yX1_saidBits wsX1_saidBits) := goodIn_app (goodIn_of _ (by decide +kernel)) ggX7_said_X1_saidBits
set_option maxRecDepth 20000 in
theorem ggX7_said_X1_freeAmong : GoodIn wsX7_said wsX1_freeAmong := goodIn_r _ [12, 13, 14, 15, 16, 6, 17, 18, 19, 20, 21, 22, 23, 24, 25, 26, 27, 28, 29, 30, 31, 32, 43, 44, 45, 46, 47, 48, 49, 50, 51, 52] (by decide +kernel) (by decide +kernel)
set_option maxRecDepth 20000 in
theorem gX7_said_X1_freeAmong : GoodIn wsX7_said (wsV RX7 197 RX1 yX1_freeAmong wsX1_freeAmong) := goodIn_app (goodIn_of _ (by decide +kernel)) ggX7_said_X1_freeAmong
theorem dX7_said_0 : decode cX7_said 0 = .ok (.aload_n 0, 1) := by decide +kernel
theorem dX7_said_1 : decode cX7_said 1 = .ok (.aload_n 0, 1) := by decide +kernel
theorem dX7_said_2 : decode cX7_said 2 = .ok (.getfield 24, 3) := by decide +kernel
theorem dX7_said_5 : decode cX7_said 5 = .ok (.aload_n 0, 1) := by decide +kernel
theorem dX7_said_6 : decode cX7_said 6 = .ok (.getfield 24, 3) := by decide +kernel
theorem dX7_said_9 : decode cX7_said 9 = .ok (.invokevirtual 165, 3) := by decide +kernel
theorem dX7_said_12 : decode cX7_said 12 = .ok (.invokevirtual 197, 3) := by decide +kernel
theorem dX7_said_15 : decode cX7_said 15 = .ok (.putfield 63, 3) := by decide +kernel
theorem dX7_said_18 : decode cX7_said 18 = .ok (.aload_n 0, 1) := by decide +kernel
theorem dX7_said_19 : decode cX7_said 19 = .ok (.getfield 24, 3) := by decide +kernel
theorem dX7_said_22 : decode cX7_said 22 = .ok (.invokevirtual 165, 3) := by decide +kernel
theorem dX7_said_25 : decode cX7_said 25 = .ok (.ireturn, 1) := by decide +kernel
set_option maxRecDepth 20000 in
theorem ggX7_keep_X1_howMany : GoodIn wsX7_keep wsX1_howMany := goodIn_r _ [9, 10, 48, 49, 50, 51, 52, 53, 54, 55, 56, 57] (by decide +kernel) (by decide +kernel)
set_option maxRecDepth 20000 in
theorem gX7_keep_X1_howMany : GoodIn wsX7_keep (wsV RX7 126 RX1 yX1_howMany wsX1_howMany) := goodIn_app (goodIn_of _ (by decide +kernel)) ggX7_keep_X1_howMany
set_option maxRecDepth 20000 in
theorem ggX7_keep_X1_init : GoodIn wsX7_keep wsX1_init := goodIn_r _ [12, 13, 14, 15, 16, 17, 18, 19, 20, 21, 22, 23, 10, 24, 25, 48, 49, 50, 51, 52, 53, 54, 55, 56, 57] (by decide +kernel) (by decide +kernel)
set_option maxRecDepth 20000 in
theorem gX7_keep_X1_init_n23 : GoodIn wsX7_keep (wsX1_init) := ggX7_keep_X1_init
set_option maxRecDepth 20000 in
theorem ggX7_keep_X1_becomeLike : GoodIn wsX7_keep wsX1_becomeLike := goodIn_r _ [29, 17, 30, 31, 32, 33, 18, 19, 20, 21, 22, 23, 10, 24, 25, 48, 49, 50, 51, 52, 53, 54, 55, 56, 57] (by decide +kernel) (by decide +kernel)
set_option maxRecDepth 20000 in
theorem gX7_keep_X1_becomeLike : GoodIn wsX7_keep (wsV RX7 122 RX1 yX1_becomeLike wsX1_becomeLike) := goodIn_app (goodIn_of _ (by decide +kernel)) ggX7_keep_X1_becomeLike
set_option maxRecDepth 20000 in
theorem ggX7_keep_X1_howManyDeeds : GoodIn wsX7_keep wsX1_howManyDeeds := goodIn_r _ [37, 25, 48, 49, 50, 51, 52, 53, 54, 55, 56, 57] (by decide +kernel) (by decide +kernel)
set_option maxRecDepth 20000 in
theorem gX7_keep_X1_howManyDeeds : GoodIn wsX7_keep (wsV RX7 191 RX1 yX1_howManyDeeds wsX1_howManyDeeds) := goodIn_app (goodIn_of _ (by decide +kernel)) ggX7_keep_X1_howManyDeeds
theorem dX7_keep_0 : decode cX7_keep 0 = .ok (.iload_n 1, 1) := by decide +kernel
theorem dX7_keep_1 : decode cX7_keep 1 = .ok (.ifCond .lt 8, 3) := by decide +kernel
theorem dX7_keep_4 : decode cX7_keep 4 = .ok (.iload_n 1, 1) := by decide +kernel
theorem dX7_keep_5 : decode cX7_keep 5 = .ok (.iconst 3, 1) := by decide +kernel
theorem dX7_keep_6 : decode cX7_keep 6 = .ok (.if_icmp .lt 5, 3) := by decide +kernel
theorem dX7_keep_9 : decode cX7_keep 9 = .ok (.iconst (-1), 1) := by decide +kernel
theorem dX7_keep_10 : decode cX7_keep 10 = .ok (.ireturn, 1) := by decide +kernel
theorem dX7_keep_11 : decode cX7_keep 11 = .ok (.aload_n 0, 1) := by decide +kernel
theorem dX7_keep_12 : decode cX7_keep 12 = .ok (.getfield 24, 3) := by decide +kernel
theorem dX7_keep_15 : decode cX7_keep 15 = .ok (.invokevirtual 126, 3) := by decide +kernel
theorem dX7_keep_18 : decode cX7_keep 18 = .ok (.ifCond .ne 6, 3) := by decide +kernel
theorem dX7_keep_21 : decode cX7_keep 21 = .ok (.bipush (-4), 2) := by decide +kernel
theorem dX7_keep_23 : decode cX7_keep 23 = .ok (.ireturn, 1) := by decide +kernel
theorem dX7_keep_24 : decode cX7_keep 24 = .ok (.aload_n 0, 1) := by decide +kernel
theorem dX7_keep_25 : decode cX7_keep 25 = .ok (.getfield 31, 3) := by decide +kernel
theorem dX7_keep_28 : decode cX7_keep 28 = .ok (.iload_n 1, 1) := by decide +kernel
theorem dX7_keep_29 : decode cX7_keep 29 = .ok (.aaload, 1) := by decide +kernel
theorem dX7_keep_30 : decode cX7_keep 30 = .ok (.astore_n 2, 1) := by decide +kernel
theorem dX7_keep_31 : decode cX7_keep 31 = .ok (.aload_n 2, 1) := by decide +kernel
theorem dX7_keep_32 : decode cX7_keep 32 = .ok (.ifnonnull 18, 3) := by decide +kernel
theorem dX7_keep_35 : decode cX7_keep 35 = .ok (.new 21, 3) := by decide +kernel
theorem dX7_keep_38 : decode cX7_keep 38 = .ok (.dup, 1) := by decide +kernel
theorem dX7_keep_39 : decode cX7_keep 39 = .ok (.invokespecial 23, 3) := by decide +kernel
theorem dX7_keep_42 : decode cX7_keep 42 = .ok (.astore_n 2, 1) := by decide +kernel
theorem dX7_keep_43 : decode cX7_keep 43 = .ok (.aload_n 0, 1) := by decide +kernel
theorem dX7_keep_44 : decode cX7_keep 44 = .ok (.getfield 31, 3) := by decide +kernel
theorem dX7_keep_47 : decode cX7_keep 47 = .ok (.iload_n 1, 1) := by decide +kernel
theorem dX7_keep_48 : decode cX7_keep 48 = .ok (.aload_n 2, 1) := by decide +kernel
theorem dX7_keep_49 : decode cX7_keep 49 = .ok (.aastore, 1) := by decide +kernel
theorem dX7_keep_50 : decode cX7_keep 50 = .ok (.aload_n 2, 1) := by decide +kernel
theorem dX7_keep_51 : decode cX7_keep 51 = .ok (.aload_n 0, 1) := by decide +kernel
theorem dX7_keep_52 : decode cX7_keep 52 = .ok (.getfield 24, 3) := by decide +kernel
theorem dX7_keep_55 : decode cX7_keep 55 = .ok (.invokevirtual 122, 3) := by decide +kernel
theorem dX7_keep_58 : decode cX7_keep 58 = .ok (.aload_n 0, 1) := by decide +kernel
theorem dX7_keep_59 : decode cX7_keep 59 = .ok (.getfield 24, 3) := by decide +kernel
theorem dX7_keep_62 : decode cX7_keep 62 = .ok (.invokevirtual 191, 3) := by decide +kernel
theorem dX7_keep_65 : decode cX7_keep 65 = .ok (.ireturn, 1) := by decide +kernel
set_option maxRecDepth 20000 in
theorem ggX7_on_X6_note : GoodIn wsX7_on wsX6_note := goodIn_r _ [8, 9, 10, 44, 45] (by decide +kernel) (by decide +kernel)
set_option maxRecDepth 20000 in
theorem gX7_on_X6_note : GoodIn wsX7_on (wsV RX7 71 RX6 yX6_note wsX6_note) := goodIn_app (goodIn_of _ (by decide +kernel)) ggX7_on_X6_note
set_option maxRecDepth 20000 in
theorem ggX7_on_X1_becomeLike : GoodIn wsX7_on wsX1_becomeLike := goodIn_r _ [15, 16, 17, 18, 19, 20, 21, 22, 23, 24, 25, 26, 27, 28, 29, 46, 47, 48, 49, 50, 51, 52, 53, 54, 55] (by decide +kernel) (by decide +kernel)
set_option maxRecDepth 20000 in
theorem gX7_on_X1_becomeLike : GoodIn wsX7_on (wsV RX7 122 RX1 yX1_becomeLike wsX1_becomeLike) := goodIn_app (goodIn_of _ (by decide +kernel)) ggX7_on_X1_becomeLike
set_option maxRecDepth 20000 in
theorem ggX7_on_X1_howManyDeeds : GoodIn wsX7_on wsX1_howManyDeeds := goodIn_r _ [33, 29, 46, 47, 48, 49, 50, 51, 52, 53, 54, 55] (by decide +kernel) (by decide +kernel)
set_option maxRecDepth 20000 in
theorem gX7_on_X1_howManyDeeds : GoodIn wsX7_on (wsV RX7 191 RX1 yX1_howManyDeeds wsX1_howManyDeeds) := goodIn_app (goodIn_of _ (by decide +kernel)) ggX7_on_X1_howManyDeeds
theorem dX7_on_0 : decode cX7_on 0 = .ok (.iload_n 1, 1) := by decide +kernel
theorem dX7_on_1 : decode cX7_on 1 = .ok (.ifCond .lt 8, 3) := by decide +kernel
theorem dX7_on_4 : decode cX7_on 4 = .ok (.iload_n 1, 1) := by decide +kernel
theorem dX7_on_5 : decode cX7_on 5 = .ok (.iconst 3, 1) := by decide +kernel
theorem dX7_on_6 : decode cX7_on 6 = .ok (.if_icmp .lt 5, 3) := by decide +kernel
theorem dX7_on_9 : decode cX7_on 9 = .ok (.iconst (-1), 1) := by decide +kernel
theorem dX7_on_10 : decode cX7_on 10 = .ok (.ireturn, 1) := by decide +kernel
theorem dX7_on_11 : decode cX7_on 11 = .ok (.aload_n 0, 1) := by decide +kernel
theorem dX7_on_12 : decode cX7_on 12 = .ok (.getfield 31, 3) := by decide +kernel
theorem dX7_on_15 : decode cX7_on 15 = .ok (.iload_n 1, 1) := by decide +kernel
theorem dX7_on_16 : decode cX7_on 16 = .ok (.aaload, 1) := by decide +kernel
theorem dX7_on_17 : decode cX7_on 17 = .ok (.astore_n 2, 1) := by decide +kernel
theorem dX7_on_18 : decode cX7_on 18 = .ok (.aload_n 2, 1) := by decide +kernel
theorem dX7_on_19 : decode cX7_on 19 = .ok (.ifnonnull 12, 3) := by decide +kernel
theorem dX7_on_22 : decode cX7_on 22 = .ok (.aload_n 0, 1) := by decide +kernel
theorem dX7_on_23 : decode cX7_on 23 = .ok (.getfield 59, 3) := by decide +kernel
theorem dX7_on_26 : decode cX7_on 26 = .ok (.iconst 1, 1) := by decide +kernel
theorem dX7_on_27 : decode cX7_on 27 = .ok (.invokevirtual 71, 3) := by decide +kernel
theorem dX7_on_30 : decode cX7_on 30 = .ok (.ireturn, 1) := by decide +kernel
theorem dX7_on_31 : decode cX7_on 31 = .ok (.aload_n 0, 1) := by decide +kernel
theorem dX7_on_32 : decode cX7_on 32 = .ok (.getfield 24, 3) := by decide +kernel
theorem dX7_on_35 : decode cX7_on 35 = .ok (.aload_n 2, 1) := by decide +kernel
theorem dX7_on_36 : decode cX7_on 36 = .ok (.invokevirtual 122, 3) := by decide +kernel
theorem dX7_on_39 : decode cX7_on 39 = .ok (.aload_n 0, 1) := by decide +kernel
theorem dX7_on_40 : decode cX7_on 40 = .ok (.getfield 24, 3) := by decide +kernel
theorem dX7_on_43 : decode cX7_on 43 = .ok (.invokevirtual 191, 3) := by decide +kernel
theorem dX7_on_46 : decode cX7_on 46 = .ok (.ireturn, 1) := by decide +kernel
set_option maxRecDepth 20000 in
theorem ggX7_leans_X1_hasNumber : GoodIn wsX7_leans wsX1_hasNumber := goodIn_r _ [6, 7, 27, 28, 29, 30, 31, 32, 33, 34, 35, 36] (by decide +kernel) (by decide +kernel)
set_option maxRecDepth 20000 in
theorem gX7_leans_X1_hasNumber : GoodIn wsX7_leans (wsV RX7 130 RX1 yX1_hasNumber wsX1_hasNumber) := goodIn_app (goodIn_of _ (by decide +kernel)) ggX7_leans_X1_hasNumber
set_option maxRecDepth 20000 in
theorem ggX7_leans_X1_leanedOn : GoodIn wsX7_leans wsX1_leanedOn := goodIn_r _ [11, 12, 13, 3, 4, 5, 6, 7, 14, 15, 16, 27, 28, 29, 30, 31, 32, 33, 34, 35, 36] (by decide +kernel) (by decide +kernel)
set_option maxRecDepth 20000 in
theorem gX7_leans_X1_leanedOn : GoodIn wsX7_leans (wsV RX7 200 RX1 yX1_leanedOn wsX1_leanedOn) := goodIn_app (goodIn_of _ (by decide +kernel)) ggX7_leans_X1_leanedOn
theorem dX7_leans_0 : decode cX7_leans 0 = .ok (.aload_n 0, 1) := by decide +kernel
theorem dX7_leans_1 : decode cX7_leans 1 = .ok (.getfield 24, 3) := by decide +kernel
theorem dX7_leans_4 : decode cX7_leans 4 = .ok (.iload_n 1, 1) := by decide +kernel
theorem dX7_leans_5 : decode cX7_leans 5 = .ok (.invokevirtual 130, 3) := by decide +kernel
theorem dX7_leans_8 : decode cX7_leans 8 = .ok (.ifCond .ne 5, 3) := by decide +kernel
theorem dX7_leans_11 : decode cX7_leans 11 = .ok (.iconst (-1), 1) := by decide +kernel
theorem dX7_leans_12 : decode cX7_leans 12 = .ok (.ireturn, 1) := by decide +kernel
theorem dX7_leans_13 : decode cX7_leans 13 = .ok (.aload_n 0, 1) := by decide +kernel
theorem dX7_leans_14 : decode cX7_leans 14 = .ok (.getfield 24, 3) := by decide +kernel
theorem dX7_leans_17 : decode cX7_leans 17 = .ok (.iload_n 1, 1) := by decide +kernel
theorem dX7_leans_18 : decode cX7_leans 18 = .ok (.invokevirtual 200, 3) := by decide +kernel
theorem dX7_leans_21 : decode cX7_leans 21 = .ok (.ireturn, 1) := by decide +kernel
set_option maxRecDepth 20000 in
theorem ggX7_feeds_X1_hasNumber : GoodIn wsX7_feeds wsX1_hasNumber := goodIn_r _ [6, 7, 33, 34, 35, 36, 37, 38, 39, 40, 41, 42] (by decide +kernel) (by decide +kernel)
set_option maxRecDepth 20000 in
theorem gX7_feeds_X1_hasNumber : GoodIn wsX7_feeds (wsV RX7 130 RX1 yX1_hasNumber wsX1_hasNumber) := goodIn_app (goodIn_of _ (by decide +kernel)) ggX7_feeds_X1_hasNumber
set_option maxRecDepth 20000 in
theorem ggX7_feeds_X1_leaningOn : GoodIn wsX7_feeds wsX1_leaningOn := goodIn_r _ [11, 7, 12, 13, 14, 5, 15, 16, 17, 3, 4, 6, 18, 19, 20, 21, 22, 33, 34, 35, 36, 37, 38, 39, 40, 41, 42] (by decide +kernel) (by decide +kernel)
set_option maxRecDepth 20000 in
theorem gX7_feeds_X1_leaningOn : GoodIn wsX7_feeds (wsV RX7 203 RX1 yX1_leaningOn wsX1_leaningOn) := goodIn_app (goodIn_of _ (by decide +kernel)) ggX7_feeds_X1_leaningOn
theorem dX7_feeds_0 : decode cX7_feeds 0 = .ok (.aload_n 0, 1) := by decide +kernel
theorem dX7_feeds_1 : decode cX7_feeds 1 = .ok (.getfield 24, 3) := by decide +kernel
theorem dX7_feeds_4 : decode cX7_feeds 4 = .ok (.iload_n 1, 1) := by decide +kernel
theorem dX7_feeds_5 : decode cX7_feeds 5 = .ok (.invokevirtual 130, 3) := by decide +kernel
theorem dX7_feeds_8 : decode cX7_feeds 8 = .ok (.ifCond .ne 5, 3) := by decide +kernel
theorem dX7_feeds_11 : decode cX7_feeds 11 = .ok (.iconst (-1), 1) := by decide +kernel
theorem dX7_feeds_12 : decode cX7_feeds 12 = .ok (.ireturn, 1) := by decide +kernel
theorem dX7_feeds_13 : decode cX7_feeds 13 = .ok (.aload_n 0, 1) := by decide +kernel
theorem dX7_feeds_14 : decode cX7_feeds 14 = .ok (.getfield 24, 3) := by decide +kernel
theorem dX7_feeds_17 : decode cX7_feeds 17 = .ok (.iload_n 1, 1) := by decide +kernel
theorem dX7_feeds_18 : decode cX7_feeds 18 = .ok (.invokevirtual 203, 3) := by decide +kernel
theorem dX7_feeds_21 : decode cX7_feeds 21 = .ok (.ireturn, 1) := by decide +kernel
set_option maxRecDepth 20000 in
theorem ggX7_first_X1_hasNumber : GoodIn wsX7_first wsX1_hasNumber := goodIn_r _ [7, 8, 45, 46, 47, 48, 49, 50, 51, 52, 53, 54] (by decide +kernel) (by decide +kernel)
set_option maxRecDepth 20000 in
theorem gX7_first_X1_hasNumber : GoodIn wsX7_first (wsV RX7 130 RX1 yX1_hasNumber wsX1_hasNumber) := goodIn_app (goodIn_of _ (by decide +kernel)) ggX7_first_X1_hasNumber
set_option maxRecDepth 20000 in
theorem ggX7_first_X1_leanedOn : GoodIn wsX7_first wsX1_leanedOn := goodIn_r _ [12, 13, 14, 4, 5, 6, 7, 8, 15, 16, 17, 45, 46, 47, 48, 49, 50, 51, 52, 53, 54] (by decide +kernel) (by decide +kernel)
set_option maxRecDepth 20000 in
theorem gX7_first_X1_leanedOn : GoodIn wsX7_first (wsV RX7 200 RX1 yX1_leanedOn wsX1_leanedOn) := goodIn_app (goodIn_of _ (by decide +kernel)) ggX7_first_X1_leanedOn
set_option maxRecDepth 20000 in
theorem ggX7_first_J6_bitCount_0f7a4 : GoodIn wsX7_first wsJ6_bitCount_0f7a4 := goodIn_r _ [21, 22, 23, 24] (by decide +kernel) (by decide +kernel)
set_option maxRecDepth 20000 in
theorem gX7_first_J6_bitCount_0f7a4 : GoodIn wsX7_first (va_wsS RX7 144 yJ6_bitCount_0f7a4 wsJ6_bitCount_0f7a4) := goodIn_app (goodIn_of _ (by decide +kernel)) ggX7_first_J6_bitCount_0f7a4
set_option maxRecDepth 20000 in
theorem ggX7_first_X1_beginningOf : GoodIn wsX7_first wsX1_beginningOf := goodIn_r _ [28, 29, 10, 11, 6, 12, 13, 14, 4, 5, 7, 8, 15, 16, 17, 30, 31, 32, 33, 34, 45, 46, 47, 48, 49, 50, 51, 52, 53, 54] (by decide +kernel) (by decide +kernel)
set_option maxRecDepth 20000 in
theorem gX7_first_X1_beginningOf : GoodIn wsX7_first (wsV RX7 206 RX1 yX1_beginningOf wsX1_beginningOf) := goodIn_app (goodIn_of _ (by decide +kernel)) ggX7_first_X1_beginningOf
theorem dX7_first_0 : decode cX7_first 0 = .ok (.aload_n 0, 1) := by decide +kernel
theorem dX7_first_1 : decode cX7_first 1 = .ok (.getfield 24, 3) := by decide +kernel
theorem dX7_first_4 : decode cX7_first 4 = .ok (.iload_n 1, 1) := by decide +kernel
theorem dX7_first_5 : decode cX7_first 5 = .ok (.invokevirtual 130, 3) := by decide +kernel
theorem dX7_first_8 : decode cX7_first 8 = .ok (.ifCond .ne 5, 3) := by decide +kernel
theorem dX7_first_11 : decode cX7_first 11 = .ok (.iconst (-1), 1) := by decide +kernel
theorem dX7_first_12 : decode cX7_first 12 = .ok (.ireturn, 1) := by decide +kernel
theorem dX7_first_13 : decode cX7_first 13 = .ok (.aload_n 0, 1) := by decide +kernel
theorem dX7_first_14 : decode cX7_first 14 = .ok (.aload_n 0, 1) := by decide +kernel
theorem dX7_first_15 : decode cX7_first 15 = .ok (.getfield 24, 3) := by decide +kernel
theorem dX7_first_18 : decode cX7_first 18 = .ok (.iload_n 1, 1) := by decide +kernel
theorem dX7_first_19 : decode cX7_first 19 = .ok (.invokevirtual 200, 3) := by decide +kernel
theorem dX7_first_22 : decode cX7_first 22 = .ok (.invokestatic 144, 3) := by decide +kernel
theorem dX7_first_25 : decode cX7_first 25 = .ok (.putfield 63, 3) := by decide +kernel
theorem dX7_first_28 : decode cX7_first 28 = .ok (.aload_n 0, 1) := by decide +kernel
theorem dX7_first_29 : decode cX7_first 29 = .ok (.getfield 24, 3) := by decide +kernel
theorem dX7_first_32 : decode cX7_first 32 = .ok (.iload_n 1, 1) := by decide +kernel
theorem dX7_first_33 : decode cX7_first 33 = .ok (.invokevirtual 206, 3) := by decide +kernel
theorem dX7_first_36 : decode cX7_first 36 = .ok (.ireturn, 1) := by decide +kernel
set_option maxRecDepth 20000 in
theorem ggX7_bundles_X1_beginningsOfSaid : GoodIn wsX7_bundles wsX1_beginningsOfSaid := goodIn_r _ [7, 8, 9, 10, 11, 6, 12, 13, 14, 15, 16, 17, 18, 19, 20, 21, 22, 23, 24, 25, 26, 27, 28, 29, 30, 31, 32, 33, 34, 52, 53, 54, 55, 56, 57, 58, 59, 60, 61] (by decide +kernel) (by decide +kernel)
set_option maxRecDepth 20000 in
theorem gX7_bundles_X1_beginningsOfSaid : GoodIn wsX7_bundles (wsV RX7 209 RX1 yX1_beginningsOfSaid wsX1_beginningsOfSaid) := goodIn_app (goodIn_of _ (by decide +kernel)) ggX7_bundles_X1_beginningsOfSaid
set_option maxRecDepth 20000 in
theorem ggX7_bundles_J6_bitCount_0f7a4 : GoodIn wsX7_bundles wsJ6_bitCount_0f7a4 := goodIn_r _ [38, 39, 40, 41] (by decide +kernel) (by decide +kernel)
set_option maxRecDepth 20000 in
theorem gX7_bundles_J6_bitCount_0f7a4 : GoodIn wsX7_bundles (va_wsS RX7 144 yJ6_bitCount_0f7a4 wsJ6_bitCount_0f7a4) := goodIn_app (goodIn_of _ (by decide +kernel)) ggX7_bundles_J6_bitCount_0f7a4
theorem dX7_bundles_0 : decode cX7_bundles 0 = .ok (.aload_n 0, 1) := by decide +kernel
theorem dX7_bundles_1 : decode cX7_bundles 1 = .ok (.aload_n 0, 1) := by decide +kernel
theorem dX7_bundles_2 : decode cX7_bundles 2 = .ok (.getfield 24, 3) := by decide +kernel
theorem dX7_bundles_5 : decode cX7_bundles 5 = .ok (.invokevirtual 209, 3) := by decide +kernel
theorem dX7_bundles_8 : decode cX7_bundles 8 = .ok (.putfield 63, 3) := by decide +kernel
theorem dX7_bundles_11 : decode cX7_bundles 11 = .ok (.aload_n 0, 1) := by decide +kernel
theorem dX7_bundles_12 : decode cX7_bundles 12 = .ok (.getfield 63, 3) := by decide +kernel
theorem dX7_bundles_15 : decode cX7_bundles 15 = .ok (.invokestatic 144, 3) := by decide +kernel
theorem dX7_bundles_18 : decode cX7_bundles 18 = .ok (.ireturn, 1) := by decide +kernel
set_option maxRecDepth 20000 in
theorem ggX7_longest_X5_hasNumber : GoodIn wsX7_longest wsX5_hasNumber := goodIn_r _ [7, 8, 70, 71, 72] (by decide +kernel) (by decide +kernel)
set_option maxRecDepth 20000 in
theorem gX7_longest_X5_hasNumber : GoodIn wsX7_longest (wsV RX7 67 RX5 yX5_hasNumber wsX5_hasNumber) := goodIn_app (goodIn_of _ (by decide +kernel)) ggX7_longest_X5_hasNumber
set_option maxRecDepth 20000 in
theorem ggX7_longest_X1_deepest : GoodIn wsX7_longest wsX1_deepest := goodIn_r _ [13, 14, 15, 16, 17, 12, 18, 19, 20, 21, 22, 23, 24, 25, 26, 27, 28, 29, 30, 31, 32, 33, 73, 74, 75, 76, 77, 78, 79, 80, 81, 82] (by decide +kernel) (by decide +kernel)
set_option maxRecDepth 20000 in
theorem gX7_longest_X1_deepest : GoodIn wsX7_longest (wsV RX7 212 RX1 yX1_deepest wsX1_deepest) := goodIn_app (goodIn_of _ (by decide +kernel)) ggX7_longest_X1_deepest
set_option maxRecDepth 20000 in
theorem ggX7_longest_X5_makeAnew : GoodIn wsX7_longest wsX5_makeAnew := goodIn_r _ [37, 8, 38, 39, 40, 41, 42, 43, 44, 45, 46, 70, 71, 72] (by decide +kernel) (by decide +kernel)
set_option maxRecDepth 20000 in
theorem gX7_longest_X5_makeAnew : GoodIn wsX7_longest (wsV RX7 75 RX5 yX5_makeAnew wsX5_makeAnew) := goodIn_app (goodIn_of _ (by decide +kernel)) ggX7_longest_X5_makeAnew
set_option maxRecDepth 20000 in
theorem ggX7_longest_X1_leanedOn : GoodIn wsX7_longest wsX1_leanedOn := goodIn_r _ [18, 19, 20, 21, 22, 12, 23, 14, 24, 25, 26, 73, 74, 75, 76, 77, 78, 79, 80, 81, 82] (by decide +kernel) (by decide +kernel)
set_option maxRecDepth 20000 in
theorem gX7_longest_X1_leanedOn : GoodIn wsX7_longest (wsV RX7 200 RX1 yX1_leanedOn wsX1_leanedOn) := goodIn_app (goodIn_of _ (by decide +kernel)) ggX7_longest_X1_leanedOn
set_option maxRecDepth 20000 in
theorem ggX7_longest_X7_bit : GoodIn wsX7_longest wsX7_bit := goodIn_r _ [26] (by decide +kernel) (by decide +kernel)
set_option maxRecDepth 20000 in
theorem gX7_longest_X7_bit : GoodIn wsX7_longest (va_wsS RX7 215 yX7_bit wsX7_bit) := goodIn_app (goodIn_of _ (by decide +kernel)) ggX7_longest_X7_bit
set_option maxRecDepth 20000 in
theorem ggX7_longest_J6_bitCount_0f7a4 : GoodIn wsX7_longest wsJ6_bitCount_0f7a4 := goodIn_r _ [30, 31, 32, 33] (by decide +kernel) (by decide +kernel)
set_option maxRecDepth 20000 in
theorem gX7_longest_J6_bitCount_0f7a4 : GoodIn wsX7_longest (va_wsS RX7 144 yJ6_bitCount_0f7a4 wsJ6_bitCount_0f7a4) := goodIn_app (goodIn_of _ (by decide +kernel)) ggX7_longest_J6_bitCount_0f7a4
set_option maxRecDepth 20000 in
theorem ggX7_longest_X7_numberAt : GoodIn wsX7_longest wsX7_numberAt := goodIn_r _ [52, 53, 54, 25, 55] (by decide +kernel) (by decide +kernel)
set_option maxRecDepth 20000 in
theorem gX7_longest_X7_numberAt : GoodIn wsX7_longest (va_wsS RX7 218 yX7_numberAt wsX7_numberAt) := goodIn_app (goodIn_of _ (by decide +kernel)) ggX7_longest_X7_numberAt
set_option maxRecDepth 20000 in
theorem ggX7_longest_X5_setCell : GoodIn wsX7_longest wsX5_setCell := goodIn_r _ [59, 38, 39, 70, 71, 72] (by decide +kernel) (by decide +kernel)
set_option maxRecDepth 20000 in
theorem gX7_longest_X5_setCell : GoodIn wsX7_longest (wsV RX7 87 RX5 yX5_setCell wsX5_setCell) := goodIn_app (goodIn_of _ (by decide +kernel)) ggX7_longest_X5_setCell
theorem dX7_longest_0 : decode cX7_longest 0 = .ok (.aload_n 0, 1) := by decide +kernel
theorem dX7_longest_1 : decode cX7_longest 1 = .ok (.getfield 14, 3) := by decide +kernel
theorem dX7_longest_4 : decode cX7_longest 4 = .ok (.iload_n 1, 1) := by decide +kernel
theorem dX7_longest_5 : decode cX7_longest 5 = .ok (.invokevirtual 67, 3) := by decide +kernel
theorem dX7_longest_8 : decode cX7_longest 8 = .ok (.ifCond .ne 5, 3) := by decide +kernel
theorem dX7_longest_11 : decode cX7_longest 11 = .ok (.iconst (-1), 1) := by decide +kernel
theorem dX7_longest_12 : decode cX7_longest 12 = .ok (.ireturn, 1) := by decide +kernel
theorem dX7_longest_13 : decode cX7_longest 13 = .ok (.aload_n 0, 1) := by decide +kernel
theorem dX7_longest_14 : decode cX7_longest 14 = .ok (.getfield 24, 3) := by decide +kernel
theorem dX7_longest_17 : decode cX7_longest 17 = .ok (.invokevirtual 212, 3) := by decide +kernel
theorem dX7_longest_20 : decode cX7_longest 20 = .ok (.istore_n 2, 1) := by decide +kernel
theorem dX7_longest_21 : decode cX7_longest 21 = .ok (.iload_n 2, 1) := by decide +kernel
theorem dX7_longest_22 : decode cX7_longest 22 = .ok (.bipush (-9), 2) := by decide +kernel
theorem dX7_longest_24 : decode cX7_longest 24 = .ok (.if_icmp .ne 15, 3) := by decide +kernel
theorem dX7_longest_27 : decode cX7_longest 27 = .ok (.aload_n 0, 1) := by decide +kernel
theorem dX7_longest_28 : decode cX7_longest 28 = .ok (.getfield 14, 3) := by decide +kernel
theorem dX7_longest_31 : decode cX7_longest 31 = .ok (.iload_n 1, 1) := by decide +kernel
theorem dX7_longest_32 : decode cX7_longest 32 = .ok (.iconst 0, 1) := by decide +kernel
theorem dX7_longest_33 : decode cX7_longest 33 = .ok (.iconst 0, 1) := by decide +kernel
theorem dX7_longest_34 : decode cX7_longest 34 = .ok (.invokevirtual 75, 3) := by decide +kernel
theorem dX7_longest_37 : decode cX7_longest 37 = .ok (.iconst 0, 1) := by decide +kernel
theorem dX7_longest_38 : decode cX7_longest 38 = .ok (.ireturn, 1) := by decide +kernel
theorem dX7_longest_39 : decode cX7_longest 39 = .ok (.aload_n 0, 1) := by decide +kernel
theorem dX7_longest_40 : decode cX7_longest 40 = .ok (.getfield 24, 3) := by decide +kernel
theorem dX7_longest_43 : decode cX7_longest 43 = .ok (.iload_n 2, 1) := by decide +kernel
theorem dX7_longest_44 : decode cX7_longest 44 = .ok (.invokevirtual 200, 3) := by decide +kernel
theorem dX7_longest_47 : decode cX7_longest 47 = .ok (.iload_n 2, 1) := by decide +kernel
theorem dX7_longest_48 : decode cX7_longest 48 = .ok (.invokestatic 215, 3) := by decide +kernel
theorem dX7_longest_51 : decode cX7_longest 51 = .ok (.ior, 1) := by decide +kernel
theorem dX7_longest_52 : decode cX7_longest 52 = .ok (.istore_n 3, 1) := by decide +kernel
theorem dX7_longest_53 : decode cX7_longest 53 = .ok (.iload_n 3, 1) := by decide +kernel
theorem dX7_longest_54 : decode cX7_longest 54 = .ok (.invokestatic 144, 3) := by decide +kernel
theorem dX7_longest_57 : decode cX7_longest 57 = .ok (.istore 4, 2) := by decide +kernel
theorem dX7_longest_59 : decode cX7_longest 59 = .ok (.aload_n 0, 1) := by decide +kernel
theorem dX7_longest_60 : decode cX7_longest 60 = .ok (.getfield 14, 3) := by decide +kernel
theorem dX7_longest_63 : decode cX7_longest 63 = .ok (.iload_n 1, 1) := by decide +kernel
theorem dX7_longest_64 : decode cX7_longest 64 = .ok (.iload 4, 2) := by decide +kernel
theorem dX7_longest_66 : decode cX7_longest 66 = .ok (.iconst 0, 1) := by decide +kernel
theorem dX7_longest_67 : decode cX7_longest 67 = .ok (.invokevirtual 75, 3) := by decide +kernel
theorem dX7_longest_70 : decode cX7_longest 70 = .ok (.iconst 0, 1) := by decide +kernel
theorem dX7_longest_71 : decode cX7_longest 71 = .ok (.istore 5, 2) := by decide +kernel
theorem dX7_longest_73 : decode cX7_longest 73 = .ok (.iload 5, 2) := by decide +kernel
theorem dX7_longest_75 : decode cX7_longest 75 = .ok (.iload 4, 2) := by decide +kernel
theorem dX7_longest_77 : decode cX7_longest 77 = .ok (.if_icmp .ge 25, 3) := by decide +kernel
theorem dX7_longest_80 : decode cX7_longest 80 = .ok (.aload_n 0, 1) := by decide +kernel
theorem dX7_longest_81 : decode cX7_longest 81 = .ok (.getfield 14, 3) := by decide +kernel
theorem dX7_longest_84 : decode cX7_longest 84 = .ok (.iload_n 1, 1) := by decide +kernel
theorem dX7_longest_85 : decode cX7_longest 85 = .ok (.iload 5, 2) := by decide +kernel
theorem dX7_longest_87 : decode cX7_longest 87 = .ok (.iload_n 3, 1) := by decide +kernel
theorem dX7_longest_88 : decode cX7_longest 88 = .ok (.iload 5, 2) := by decide +kernel
theorem dX7_longest_90 : decode cX7_longest 90 = .ok (.invokestatic 218, 3) := by decide +kernel
theorem dX7_longest_93 : decode cX7_longest 93 = .ok (.invokevirtual 87, 3) := by decide +kernel
theorem dX7_longest_96 : decode cX7_longest 96 = .ok (.iinc 5 1, 3) := by decide +kernel
theorem dX7_longest_99 : decode cX7_longest 99 = .ok (.goto (-26), 3) := by decide +kernel
theorem dX7_longest_102 : decode cX7_longest 102 = .ok (.iload 4, 2) := by decide +kernel
theorem dX7_longest_104 : decode cX7_longest 104 = .ok (.ireturn, 1) := by decide +kernel
set_option maxRecDepth 20000 in
theorem ggX7_cheapest_X5_hasNumber : GoodIn wsX7_cheapest wsX5_hasNumber := goodIn_r _ [8, 9, 119, 120, 121] (by decide +kernel) (by decide +kernel)
set_option maxRecDepth 20000 in
theorem gX7_cheapest_X5_hasNumber : GoodIn wsX7_cheapest (wsV RX7 67 RX5 yX5_hasNumber wsX5_hasNumber) := goodIn_app (goodIn_of _ (by decide +kernel)) ggX7_cheapest_X5_hasNumber
set_option maxRecDepth 20000 in
theorem ggX7_cheapest_X2_weigh : GoodIn wsX7_cheapest wsX2_weigh := goodIn_r _ [14, 15, 16, 17, 18, 19, 20, 21, 22, 23, 24, 25, 26, 27, 28, 29, 30, 31, 32, 33, 34, 35, 36, 37, 38, 39, 40, 41, 42, 43, 44, 45, 46, 47, 48, 49, 50, 51, 52, 53, 54, 13, 55, 56, 57, 58, 59, 60, 61, 62, 63, 64, 65, 66, 67, 68, 69, 70, 71, 72, 73, 74, 75, 76, 77, 78, 79, 80, 81, 82, 83, 122, 123, 124, 125, 126, 127, 128, 129, 130, 131, 132, 133, 134] (by decide +kernel) (by decide +kernel)
set_option maxRecDepth 20000 in
theorem gX7_cheapest_X2_weigh : GoodIn wsX7_cheapest (wsV RX7 221 RX2 yX2_weigh wsX2_weigh) := goodIn_app (goodIn_of _ (by decide +kernel)) ggX7_cheapest_X2_weigh
set_option maxRecDepth 20000 in
theorem ggX7_cheapest_X2_writeCheapest : GoodIn wsX7_cheapest wsX2_writeCheapest := goodIn_r _ [87, 18, 19, 20, 21, 22, 23, 71, 72, 73, 74, 75, 76, 77, 88, 89, 90, 7, 91, 9, 92, 93, 94, 95, 96, 97, 98, 99, 100, 101, 102, 103, 13, 104, 17, 24, 25, 26, 27, 28, 61, 62, 63, 64, 16, 65, 40, 66, 67, 68, 69, 70, 15, 78, 79, 80, 81, 46, 82, 83, 39, 41, 105, 106, 107, 108, 125, 126, 127, 128, 129, 130, 131, 132, 133, 134, 119, 120, 121, 122, 123, 124] (by decide +kernel) (by decide +kernel)
set_option maxRecDepth 20000 in
theorem gX7_cheapest_X2_writeCheapest : GoodIn wsX7_cheapest (wsV RX7 225 RX2 yX2_writeCheapest wsX2_writeCheapest) := goodIn_app (goodIn_of _ (by decide +kernel)) ggX7_cheapest_X2_writeCheapest
theorem dX7_cheapest_0 : decode cX7_cheapest 0 = .ok (.aload_n 0, 1) := by decide +kernel
theorem dX7_cheapest_1 : decode cX7_cheapest 1 = .ok (.getfield 14, 3) := by decide +kernel
theorem dX7_cheapest_4 : decode cX7_cheapest 4 = .ok (.iload_n 1, 1) := by decide +kernel
theorem dX7_cheapest_5 : decode cX7_cheapest 5 = .ok (.invokevirtual 67, 3) := by decide +kernel
theorem dX7_cheapest_8 : decode cX7_cheapest 8 = .ok (.ifCond .ne 5, 3) := by decide +kernel
theorem dX7_cheapest_11 : decode cX7_cheapest 11 = .ok (.iconst (-1), 1) := by decide +kernel
theorem dX7_cheapest_12 : decode cX7_cheapest 12 = .ok (.ireturn, 1) := by decide +kernel
theorem dX7_cheapest_13 : decode cX7_cheapest 13 = .ok (.aload_n 0, 1) := by decide +kernel
theorem dX7_cheapest_14 : decode cX7_cheapest 14 = .ok (.getfield 38, 3) := by decide +kernel
theorem dX7_cheapest_17 : decode cX7_cheapest 17 = .ok (.aload_n 0, 1) := by decide +kernel
theorem dX7_cheapest_18 : decode cX7_cheapest 18 = .ok (.getfield 24, 3) := by decide +kernel
theorem dX7_cheapest_21 : decode cX7_cheapest 21 = .ok (.invokevirtual 221, 3) := by decide +kernel
theorem dX7_cheapest_24 : decode cX7_cheapest 24 = .ok (.istore_n 2, 1) := by decide +kernel
theorem dX7_cheapest_25 : decode cX7_cheapest 25 = .ok (.aload_n 0, 1) := by decide +kernel
theorem dX7_cheapest_26 : decode cX7_cheapest 26 = .ok (.getfield 38, 3) := by decide +kernel
theorem dX7_cheapest_29 : decode cX7_cheapest 29 = .ok (.aload_n 0, 1) := by decide +kernel
theorem dX7_cheapest_30 : decode cX7_cheapest 30 = .ok (.getfield 24, 3) := by decide +kernel
theorem dX7_cheapest_33 : decode cX7_cheapest 33 = .ok (.aload_n 0, 1) := by decide +kernel
theorem dX7_cheapest_34 : decode cX7_cheapest 34 = .ok (.getfield 14, 3) := by decide +kernel
theorem dX7_cheapest_37 : decode cX7_cheapest 37 = .ok (.iload_n 1, 1) := by decide +kernel
theorem dX7_cheapest_38 : decode cX7_cheapest 38 = .ok (.invokevirtual 225, 3) := by decide +kernel
theorem dX7_cheapest_41 : decode cX7_cheapest 41 = .ok (.iload_n 2, 1) := by decide +kernel
theorem dX7_cheapest_42 : decode cX7_cheapest 42 = .ok (.ireturn, 1) := by decide +kernel
set_option maxRecDepth 20000 in
theorem ggX7_orders_X2_howManyOrders : GoodIn wsX7_orders wsX2_howManyOrders := goodIn_r _ [8, 9, 10, 11, 12, 13, 14, 15, 16, 17, 18, 19, 20, 21, 22, 23, 24, 25, 26, 27, 28, 29, 30, 31, 32, 33, 34, 35, 36, 37, 38, 39, 40, 41, 42, 43, 44, 45, 46, 47, 48, 49, 50, 74, 75, 76, 77, 78, 79, 80, 81, 82, 83] (by decide +kernel) (by decide +kernel)
set_option maxRecDepth 20000 in
theorem gX7_orders_X2_howManyOrders : GoodIn wsX7_orders (wsV RX7 229 RX2 yX2_howManyOrders wsX2_howManyOrders) := goodIn_app (goodIn_of _ (by decide +kernel)) ggX7_orders_X2_howManyOrders
set_option maxRecDepth 20000 in
theorem ggX7_orders_X4_tell : GoodIn wsX7_orders wsX4_tell := goodIn_r _ [55, 56, 57, 11, 58, 59, 60, 61, 62, 54, 63, 84, 85] (by decide +kernel) (by decide +kernel)
set_option maxRecDepth 20000 in
theorem gX7_orders_X4_tell : GoodIn wsX7_orders (wsV RX7 233 RX4 yX4_tell wsX4_tell) := goodIn_app (goodIn_of _ (by decide +kernel)) ggX7_orders_X4_tell
theorem dX7_orders_0 : decode cX7_orders 0 = .ok (.aload_n 0, 1) := by decide +kernel
theorem dX7_orders_1 : decode cX7_orders 1 = .ok (.getfield 52, 3) := by decide +kernel
theorem dX7_orders_4 : decode cX7_orders 4 = .ok (.aload_n 0, 1) := by decide +kernel
theorem dX7_orders_5 : decode cX7_orders 5 = .ok (.getfield 38, 3) := by decide +kernel
theorem dX7_orders_8 : decode cX7_orders 8 = .ok (.aload_n 0, 1) := by decide +kernel
theorem dX7_orders_9 : decode cX7_orders 9 = .ok (.getfield 24, 3) := by decide +kernel
theorem dX7_orders_12 : decode cX7_orders 12 = .ok (.invokevirtual 229, 3) := by decide +kernel
theorem dX7_orders_15 : decode cX7_orders 15 = .ok (.lconst 1, 1) := by decide +kernel
theorem dX7_orders_16 : decode cX7_orders 16 = .ok (.invokevirtual 233, 3) := by decide +kernel
theorem dX7_orders_19 : decode cX7_orders 19 = .ok (.iconst 1, 1) := by decide +kernel
theorem dX7_orders_20 : decode cX7_orders 20 = .ok (.ireturn, 1) := by decide +kernel
set_option maxRecDepth 20000 in
theorem ggX7_judge_X7_refusalOfShelf : GoodIn wsX7_judge wsX7_refusalOfShelf := goodIn_r _ [9, 3, 10, 11, 12, 13, 14, 15, 16, 17, 18, 19, 20, 21, 22, 23, 24, 25, 26, 94, 95, 96, 97, 98, 99, 100, 101, 102, 103, 104, 105, 106, 107, 108] (by decide +kernel) (by decide +kernel)
set_option maxRecDepth 20000 in
theorem gX7_judge_X7_refusalOfShelf : GoodIn wsX7_judge (wsV RX7 90 RX7 yX7_refusalOfShelf wsX7_refusalOfShelf) := goodIn_app (goodIn_of _ (by decide +kernel)) ggX7_judge_X7_refusalOfShelf
set_option maxRecDepth 20000 in
theorem ggX7_judge_X5_sizeOf : GoodIn wsX7_judge wsX5_sizeOf := goodIn_r _ [30, 15, 104, 105, 106] (by decide +kernel) (by decide +kernel)
set_option maxRecDepth 20000 in
theorem gX7_judge_X5_sizeOf : GoodIn wsX7_judge (wsV RX7 109 RX5 yX5_sizeOf wsX5_sizeOf) := goodIn_app (goodIn_of _ (by decide +kernel)) ggX7_judge_X5_sizeOf
set_option maxRecDepth 20000 in
theorem ggX7_judge_X5_cell : GoodIn wsX7_judge wsX5_cell := goodIn_r _ [34, 35, 36, 104, 105, 106] (by decide +kernel) (by decide +kernel)
set_option maxRecDepth 20000 in
theorem gX7_judge_X5_cell : GoodIn wsX7_judge (wsV RX7 83 RX5 yX5_cell wsX5_cell) := goodIn_app (goodIn_of _ (by decide +kernel)) ggX7_judge_X5_cell
set_option maxRecDepth 20000 in
theorem ggX7_judge_X1_hasNumber : GoodIn wsX7_judge wsX1_hasNumber := goodIn_r _ [41, 42, 109, 110, 111, 112, 113, 114, 115, 116, 117, 118] (by decide +kernel) (by decide +kernel)
set_option maxRecDepth 20000 in
theorem gX7_judge_X1_hasNumber : GoodIn wsX7_judge (wsV RX7 130 RX1 yX1_hasNumber wsX1_hasNumber) := goodIn_app (goodIn_of _ (by decide +kernel)) ggX7_judge_X1_hasNumber
set_option maxRecDepth 20000 in
theorem ggX7_judge_X6_note : GoodIn wsX7_judge wsX6_note := goodIn_r _ [24, 25, 26, 107, 108] (by decide +kernel) (by decide +kernel)
set_option maxRecDepth 20000 in
theorem gX7_judge_X6_note : GoodIn wsX7_judge (wsV RX7 71 RX6 yX6_note wsX6_note) := goodIn_app (goodIn_of _ (by decide +kernel)) ggX7_judge_X6_note
set_option maxRecDepth 20000 in
theorem ggX7_judge_X1_saidBits : GoodIn wsX7_judge wsX1_saidBits := goodIn_r _ [46, 47, 109, 110, 111, 112, 113, 114, 115, 116, 117, 118] (by decide +kernel) (by decide +kernel)
set_option maxRecDepth 20000 in
theorem gX7_judge_X1_saidBits : GoodIn wsX7_judge (wsV RX7 165 RX1 yX1_saidBits wsX1_saidBits) := goodIn_app (goodIn_of _ (by decide +kernel)) ggX7_judge_X1_saidBits
set_option maxRecDepth 20000 in
theorem ggX7_judge_X1_mayGo : GoodIn wsX7_judge wsX1_mayGo := goodIn_r _ [51, 52, 8, 53, 54, 55, 56, 40, 57, 58, 59, 60, 61, 62, 42, 63, 64, 65, 109, 110, 111, 112, 113, 114, 115, 116, 117, 118] (by decide +kernel) (by decide +kernel)
set_option maxRecDepth 20000 in
theorem gX7_judge_X1_mayGo : GoodIn wsX7_judge (wsV RX7 185 RX1 yX1_mayGo wsX1_mayGo) := goodIn_app (goodIn_of _ (by decide +kernel)) ggX7_judge_X1_mayGo
set_option maxRecDepth 20000 in
theorem ggX7_judge_X1_priceAmong : GoodIn wsX7_judge wsX1_priceAmong := goodIn_r _ [69, 70, 71, 72, 40, 73, 74, 75, 76, 77, 78, 79, 42, 64, 8, 65, 80, 81, 82, 83, 84, 85, 86, 87, 88, 89, 90, 58, 91, 92, 109, 110, 111, 112, 113, 114, 115, 116, 117, 118] (by decide +kernel) (by decide +kernel)
set_option maxRecDepth 20000 in
theorem gX7_judge_X1_priceAmong : GoodIn wsX7_judge (wsV RX7 237 RX1 yX1_priceAmong wsX1_priceAmong) := goodIn_app (goodIn_of _ (by decide +kernel)) ggX7_judge_X1_priceAmong
set_option maxRecDepth 20000 in
theorem ggX7_judge_X7_bit : GoodIn wsX7_judge wsX7_bit := goodIn_r _ [65] (by decide +kernel) (by decide +kernel)
set_option maxRecDepth 20000 in
theorem gX7_judge_X7_bit : GoodIn wsX7_judge (va_wsS RX7 215 yX7_bit wsX7_bit) := goodIn_app (goodIn_of _ (by decide +kernel)) ggX7_judge_X7_bit
theorem dX7_judge_0 : decode cX7_judge 0 = .ok (.aload_n 0, 1) := by decide +kernel
theorem dX7_judge_1 : decode cX7_judge 1 = .ok (.aload_n 0, 1) := by decide +kernel
theorem dX7_judge_2 : decode cX7_judge 2 = .ok (.getfield 14, 3) := by decide +kernel
theorem dX7_judge_5 : decode cX7_judge 5 = .ok (.iload_n 1, 1) := by decide +kernel
theorem dX7_judge_6 : decode cX7_judge 6 = .ok (.invokevirtual 90, 3) := by decide +kernel
theorem dX7_judge_9 : decode cX7_judge 9 = .ok (.istore_n 2, 1) := by decide +kernel
theorem dX7_judge_10 : decode cX7_judge 10 = .ok (.iload_n 2, 1) := by decide +kernel
theorem dX7_judge_11 : decode cX7_judge 11 = .ok (.ifCond .eq 5, 3) := by decide +kernel
theorem dX7_judge_14 : decode cX7_judge 14 = .ok (.iload_n 2, 1) := by decide +kernel
theorem dX7_judge_15 : decode cX7_judge 15 = .ok (.ireturn, 1) := by decide +kernel
theorem dX7_judge_16 : decode cX7_judge 16 = .ok (.aload_n 0, 1) := by decide +kernel
theorem dX7_judge_17 : decode cX7_judge 17 = .ok (.getfield 14, 3) := by decide +kernel
theorem dX7_judge_20 : decode cX7_judge 20 = .ok (.iload_n 1, 1) := by decide +kernel
theorem dX7_judge_21 : decode cX7_judge 21 = .ok (.invokevirtual 109, 3) := by decide +kernel
theorem dX7_judge_24 : decode cX7_judge 24 = .ok (.istore_n 3, 1) := by decide +kernel
theorem dX7_judge_25 : decode cX7_judge 25 = .ok (.iconst 0, 1) := by decide +kernel
theorem dX7_judge_26 : decode cX7_judge 26 = .ok (.istore 4, 2) := by decide +kernel
theorem dX7_judge_28 : decode cX7_judge 28 = .ok (.iload 4, 2) := by decide +kernel
theorem dX7_judge_30 : decode cX7_judge 30 = .ok (.iload_n 3, 1) := by decide +kernel
theorem dX7_judge_31 : decode cX7_judge 31 = .ok (.if_icmp .ge 38, 3) := by decide +kernel
theorem dX7_judge_34 : decode cX7_judge 34 = .ok (.aload_n 0, 1) := by decide +kernel
theorem dX7_judge_35 : decode cX7_judge 35 = .ok (.getfield 24, 3) := by decide +kernel
theorem dX7_judge_38 : decode cX7_judge 38 = .ok (.aload_n 0, 1) := by decide +kernel
theorem dX7_judge_39 : decode cX7_judge 39 = .ok (.getfield 14, 3) := by decide +kernel
theorem dX7_judge_42 : decode cX7_judge 42 = .ok (.iload_n 1, 1) := by decide +kernel
theorem dX7_judge_43 : decode cX7_judge 43 = .ok (.iload 4, 2) := by decide +kernel
theorem dX7_judge_45 : decode cX7_judge 45 = .ok (.invokevirtual 83, 3) := by decide +kernel
theorem dX7_judge_48 : decode cX7_judge 48 = .ok (.invokevirtual 130, 3) := by decide +kernel
theorem dX7_judge_51 : decode cX7_judge 51 = .ok (.ifCond .ne 12, 3) := by decide +kernel
theorem dX7_judge_54 : decode cX7_judge 54 = .ok (.aload_n 0, 1) := by decide +kernel
theorem dX7_judge_55 : decode cX7_judge 55 = .ok (.getfield 59, 3) := by decide +kernel
theorem dX7_judge_58 : decode cX7_judge 58 = .ok (.iconst 3, 1) := by decide +kernel
theorem dX7_judge_59 : decode cX7_judge 59 = .ok (.invokevirtual 71, 3) := by decide +kernel
theorem dX7_judge_62 : decode cX7_judge 62 = .ok (.ireturn, 1) := by decide +kernel
theorem dX7_judge_63 : decode cX7_judge 63 = .ok (.iinc 4 1, 3) := by decide +kernel
theorem dX7_judge_66 : decode cX7_judge 66 = .ok (.goto (-38), 3) := by decide +kernel
theorem dX7_judge_69 : decode cX7_judge 69 = .ok (.aload_n 0, 1) := by decide +kernel
theorem dX7_judge_70 : decode cX7_judge 70 = .ok (.getfield 24, 3) := by decide +kernel
theorem dX7_judge_73 : decode cX7_judge 73 = .ok (.invokevirtual 165, 3) := by decide +kernel
theorem dX7_judge_76 : decode cX7_judge 76 = .ok (.istore 4, 2) := by decide +kernel
theorem dX7_judge_78 : decode cX7_judge 78 = .ok (.iconst 0, 1) := by decide +kernel
theorem dX7_judge_79 : decode cX7_judge 79 = .ok (.istore 5, 2) := by decide +kernel
theorem dX7_judge_81 : decode cX7_judge 81 = .ok (.iconst 0, 1) := by decide +kernel
theorem dX7_judge_82 : decode cX7_judge 82 = .ok (.istore 6, 2) := by decide +kernel
theorem dX7_judge_84 : decode cX7_judge 84 = .ok (.iload 6, 2) := by decide +kernel
theorem dX7_judge_86 : decode cX7_judge 86 = .ok (.iload_n 3, 1) := by decide +kernel
theorem dX7_judge_87 : decode cX7_judge 87 = .ok (.if_icmp .ge 71, 3) := by decide +kernel
theorem dX7_judge_90 : decode cX7_judge 90 = .ok (.aload_n 0, 1) := by decide +kernel
theorem dX7_judge_91 : decode cX7_judge 91 = .ok (.getfield 24, 3) := by decide +kernel
theorem dX7_judge_94 : decode cX7_judge 94 = .ok (.aload_n 0, 1) := by decide +kernel
theorem dX7_judge_95 : decode cX7_judge 95 = .ok (.getfield 14, 3) := by decide +kernel
theorem dX7_judge_98 : decode cX7_judge 98 = .ok (.iload_n 1, 1) := by decide +kernel
theorem dX7_judge_99 : decode cX7_judge 99 = .ok (.iload 6, 2) := by decide +kernel
theorem dX7_judge_101 : decode cX7_judge 101 = .ok (.invokevirtual 83, 3) := by decide +kernel
theorem dX7_judge_104 : decode cX7_judge 104 = .ok (.iload 4, 2) := by decide +kernel
theorem dX7_judge_106 : decode cX7_judge 106 = .ok (.invokevirtual 185, 3) := by decide +kernel
theorem dX7_judge_109 : decode cX7_judge 109 = .ok (.ifCond .eq 49, 3) := by decide +kernel
theorem dX7_judge_112 : decode cX7_judge 112 = .ok (.aload_n 0, 1) := by decide +kernel
theorem dX7_judge_113 : decode cX7_judge 113 = .ok (.getfield 14, 3) := by decide +kernel
theorem dX7_judge_116 : decode cX7_judge 116 = .ok (.iload_n 1, 1) := by decide +kernel
theorem dX7_judge_117 : decode cX7_judge 117 = .ok (.iload 6, 2) := by decide +kernel
theorem dX7_judge_119 : decode cX7_judge 119 = .ok (.invokevirtual 83, 3) := by decide +kernel
theorem dX7_judge_122 : decode cX7_judge 122 = .ok (.istore 7, 2) := by decide +kernel
theorem dX7_judge_124 : decode cX7_judge 124 = .ok (.iload 5, 2) := by decide +kernel
theorem dX7_judge_126 : decode cX7_judge 126 = .ok (.aload_n 0, 1) := by decide +kernel
theorem dX7_judge_127 : decode cX7_judge 127 = .ok (.getfield 24, 3) := by decide +kernel
theorem dX7_judge_130 : decode cX7_judge 130 = .ok (.iload 7, 2) := by decide +kernel
theorem dX7_judge_132 : decode cX7_judge 132 = .ok (.iload 4, 2) := by decide +kernel
theorem dX7_judge_134 : decode cX7_judge 134 = .ok (.invokevirtual 237, 3) := by decide +kernel
theorem dX7_judge_137 : decode cX7_judge 137 = .ok (.iadd, 1) := by decide +kernel
theorem dX7_judge_138 : decode cX7_judge 138 = .ok (.istore 5, 2) := by decide +kernel
theorem dX7_judge_140 : decode cX7_judge 140 = .ok (.iload 4, 2) := by decide +kernel
theorem dX7_judge_142 : decode cX7_judge 142 = .ok (.iload 7, 2) := by decide +kernel
theorem dX7_judge_144 : decode cX7_judge 144 = .ok (.invokestatic 215, 3) := by decide +kernel
theorem dX7_judge_147 : decode cX7_judge 147 = .ok (.iconst (-1), 1) := by decide +kernel
theorem dX7_judge_148 : decode cX7_judge 148 = .ok (.ixor, 1) := by decide +kernel
theorem dX7_judge_149 : decode cX7_judge 149 = .ok (.iand, 1) := by decide +kernel
theorem dX7_judge_150 : decode cX7_judge 150 = .ok (.istore 4, 2) := by decide +kernel
theorem dX7_judge_152 : decode cX7_judge 152 = .ok (.iinc 6 1, 3) := by decide +kernel
theorem dX7_judge_155 : decode cX7_judge 155 = .ok (.goto (-71), 3) := by decide +kernel
theorem dX7_judge_158 : decode cX7_judge 158 = .ok (.aload_n 0, 1) := by decide +kernel
theorem dX7_judge_159 : decode cX7_judge 159 = .ok (.iload 6, 2) := by decide +kernel
theorem dX7_judge_161 : decode cX7_judge 161 = .ok (.putfield 63, 3) := by decide +kernel
theorem dX7_judge_164 : decode cX7_judge 164 = .ok (.iload 6, 2) := by decide +kernel
theorem dX7_judge_166 : decode cX7_judge 166 = .ok (.iload_n 3, 1) := by decide +kernel
theorem dX7_judge_167 : decode cX7_judge 167 = .ok (.if_icmp .ne 13, 3) := by decide +kernel
theorem dX7_judge_170 : decode cX7_judge 170 = .ok (.iload 4, 2) := by decide +kernel
theorem dX7_judge_172 : decode cX7_judge 172 = .ok (.ifCond .ne 8, 3) := by decide +kernel
theorem dX7_judge_175 : decode cX7_judge 175 = .ok (.iload 5, 2) := by decide +kernel
theorem dX7_judge_177 : decode cX7_judge 177 = .ok (.goto 5, 3) := by decide +kernel
theorem dX7_judge_180 : decode cX7_judge 180 = .ok (.bipush (-9), 2) := by decide +kernel
theorem dX7_judge_182 : decode cX7_judge 182 = .ok (.ireturn, 1) := by decide +kernel
set_option maxRecDepth 20000 in
theorem ggX7_last_X1_hasNumber : GoodIn wsX7_last wsX1_hasNumber := goodIn_r _ [7, 8, 68, 69, 70, 71, 72, 73, 74, 75, 76, 77] (by decide +kernel) (by decide +kernel)
set_option maxRecDepth 20000 in
theorem gX7_last_X1_hasNumber : GoodIn wsX7_last (wsV RX7 130 RX1 yX1_hasNumber wsX1_hasNumber) := goodIn_app (goodIn_of _ (by decide +kernel)) ggX7_last_X1_hasNumber
set_option maxRecDepth 20000 in
theorem ggX7_last_X1_isSaid : GoodIn wsX7_last wsX1_isSaid := goodIn_r _ [12, 13, 14, 15, 16, 68, 69, 70, 71, 72, 73, 74, 75, 76, 77] (by decide +kernel) (by decide +kernel)
set_option maxRecDepth 20000 in
theorem gX7_last_X1_isSaid : GoodIn wsX7_last (wsV RX7 240 RX1 yX1_isSaid wsX1_isSaid) := goodIn_app (goodIn_of _ (by decide +kernel)) ggX7_last_X1_isSaid
set_option maxRecDepth 20000 in
theorem ggX7_last_X1_hasToGoAhead : GoodIn wsX7_last wsX1_hasToGoAhead := goodIn_r _ [20, 21, 22, 23, 4, 5, 6, 7, 8, 24, 10, 11, 12, 13, 14, 15, 16, 68, 69, 70, 71, 72, 73, 74, 75, 76, 77] (by decide +kernel) (by decide +kernel)
set_option maxRecDepth 20000 in
theorem gX7_last_X1_hasToGoAhead : GoodIn wsX7_last (wsV RX7 243 RX1 yX1_hasToGoAhead wsX1_hasToGoAhead) := goodIn_app (goodIn_of _ (by decide +kernel)) ggX7_last_X1_hasToGoAhead
set_option maxRecDepth 20000 in
theorem ggX7_last_X7_bit : GoodIn wsX7_last wsX7_bit := goodIn_r _ [27] (by decide +kernel) (by decide +kernel)
set_option maxRecDepth 20000 in
theorem gX7_last_X7_bit : GoodIn wsX7_last (va_wsS RX7 215 yX7_bit wsX7_bit) := goodIn_app (goodIn_of _ (by decide +kernel)) ggX7_last_X7_bit
set_option maxRecDepth 20000 in
theorem ggX7_last_X1_hasToGoWith : GoodIn wsX7_last wsX1_hasToGoWith := goodIn_r _ [31, 8, 21, 24, 10, 11, 6, 12, 13, 14, 15, 16, 32, 18, 19, 20, 22, 23, 4, 5, 7, 26, 27, 68, 69, 70, 71, 72, 73, 74, 75, 76, 77] (by decide +kernel) (by decide +kernel)
set_option maxRecDepth 20000 in
theorem gX7_last_X1_hasToGoWith : GoodIn wsX7_last (wsV RX7 246 RX1 yX1_hasToGoWith wsX1_hasToGoWith) := goodIn_app (goodIn_of _ (by decide +kernel)) ggX7_last_X1_hasToGoWith
set_option maxRecDepth 20000 in
theorem ggX7_last_J6_bitCount_0f7a4 : GoodIn wsX7_last wsJ6_bitCount_0f7a4 := goodIn_r _ [36, 37, 38, 39] (by decide +kernel) (by decide +kernel)
set_option maxRecDepth 20000 in
theorem gX7_last_J6_bitCount_0f7a4 : GoodIn wsX7_last (va_wsS RX7 144 yJ6_bitCount_0f7a4 wsJ6_bitCount_0f7a4) := goodIn_app (goodIn_of _ (by decide +kernel)) ggX7_last_J6_bitCount_0f7a4
set_option maxRecDepth 20000 in
theorem ggX7_last_X1_saidBits : GoodIn wsX7_last wsX1_saidBits := goodIn_r _ [43, 13, 68, 69, 70, 71, 72, 73, 74, 75, 76, 77] (by decide +kernel) (by decide +kernel)
set_option maxRecDepth 20000 in
theorem gX7_last_X1_saidBits : GoodIn wsX7_last (wsV RX7 165 RX1 yX1_saidBits wsX1_saidBits) := goodIn_app (goodIn_of _ (by decide +kernel)) ggX7_last_X1_saidBits
set_option maxRecDepth 20000 in
theorem ggX7_last_X4_tell : GoodIn wsX7_last wsX4_tell := goodIn_r _ [48, 49, 50, 51, 52, 53, 54, 55, 56, 47, 57, 78, 79] (by decide +kernel) (by decide +kernel)
set_option maxRecDepth 20000 in
theorem gX7_last_X4_tell : GoodIn wsX7_last (wsV RX7 233 RX4 yX4_tell wsX4_tell) := goodIn_app (goodIn_of _ (by decide +kernel)) ggX7_last_X4_tell
theorem dX7_last_0 : decode cX7_last 0 = .ok (.aload_n 0, 1) := by decide +kernel
theorem dX7_last_1 : decode cX7_last 1 = .ok (.getfield 24, 3) := by decide +kernel
theorem dX7_last_4 : decode cX7_last 4 = .ok (.iload_n 1, 1) := by decide +kernel
theorem dX7_last_5 : decode cX7_last 5 = .ok (.invokevirtual 130, 3) := by decide +kernel
theorem dX7_last_8 : decode cX7_last 8 = .ok (.ifCond .ne 5, 3) := by decide +kernel
theorem dX7_last_11 : decode cX7_last 11 = .ok (.iconst (-1), 1) := by decide +kernel
theorem dX7_last_12 : decode cX7_last 12 = .ok (.ireturn, 1) := by decide +kernel
theorem dX7_last_13 : decode cX7_last 13 = .ok (.aload_n 0, 1) := by decide +kernel
theorem dX7_last_14 : decode cX7_last 14 = .ok (.getfield 24, 3) := by decide +kernel
theorem dX7_last_17 : decode cX7_last 17 = .ok (.iload_n 1, 1) := by decide +kernel
theorem dX7_last_18 : decode cX7_last 18 = .ok (.invokevirtual 240, 3) := by decide +kernel
theorem dX7_last_21 : decode cX7_last 21 = .ok (.ifCond .ne 6, 3) := by decide +kernel
theorem dX7_last_24 : decode cX7_last 24 = .ok (.bipush (-4), 2) := by decide +kernel
theorem dX7_last_26 : decode cX7_last 26 = .ok (.ireturn, 1) := by decide +kernel
theorem dX7_last_27 : decode cX7_last 27 = .ok (.aload_n 0, 1) := by decide +kernel
theorem dX7_last_28 : decode cX7_last 28 = .ok (.getfield 24, 3) := by decide +kernel
theorem dX7_last_31 : decode cX7_last 31 = .ok (.iload_n 1, 1) := by decide +kernel
theorem dX7_last_32 : decode cX7_last 32 = .ok (.invokevirtual 243, 3) := by decide +kernel
theorem dX7_last_35 : decode cX7_last 35 = .ok (.ifCond .eq 7, 3) := by decide +kernel
theorem dX7_last_38 : decode cX7_last 38 = .ok (.iconst 0, 1) := by decide +kernel
theorem dX7_last_39 : decode cX7_last 39 = .ok (.goto 17, 3) := by decide +kernel
theorem dX7_last_42 : decode cX7_last 42 = .ok (.aload_n 0, 1) := by decide +kernel
theorem dX7_last_43 : decode cX7_last 43 = .ok (.getfield 24, 3) := by decide +kernel
theorem dX7_last_46 : decode cX7_last 46 = .ok (.iload_n 1, 1) := by decide +kernel
theorem dX7_last_47 : decode cX7_last 47 = .ok (.invokestatic 215, 3) := by decide +kernel
theorem dX7_last_50 : decode cX7_last 50 = .ok (.invokevirtual 246, 3) := by decide +kernel
theorem dX7_last_53 : decode cX7_last 53 = .ok (.invokestatic 144, 3) := by decide +kernel
theorem dX7_last_56 : decode cX7_last 56 = .ok (.istore_n 2, 1) := by decide +kernel
theorem dX7_last_57 : decode cX7_last 57 = .ok (.aload_n 0, 1) := by decide +kernel
theorem dX7_last_58 : decode cX7_last 58 = .ok (.getfield 52, 3) := by decide +kernel
theorem dX7_last_61 : decode cX7_last 61 = .ok (.iload_n 2, 1) := by decide +kernel
theorem dX7_last_62 : decode cX7_last 62 = .ok (.i2l, 1) := by decide +kernel
theorem dX7_last_63 : decode cX7_last 63 = .ok (.aload_n 0, 1) := by decide +kernel
theorem dX7_last_64 : decode cX7_last 64 = .ok (.getfield 24, 3) := by decide +kernel
theorem dX7_last_67 : decode cX7_last 67 = .ok (.invokevirtual 165, 3) := by decide +kernel
theorem dX7_last_70 : decode cX7_last 70 = .ok (.invokestatic 144, 3) := by decide +kernel
theorem dX7_last_73 : decode cX7_last 73 = .ok (.i2l, 1) := by decide +kernel
theorem dX7_last_74 : decode cX7_last 74 = .ok (.invokevirtual 233, 3) := by decide +kernel
theorem dX7_last_77 : decode cX7_last 77 = .ok (.iconst 1, 1) := by decide +kernel
theorem dX7_last_78 : decode cX7_last 78 = .ok (.ireturn, 1) := by decide +kernel
set_option maxRecDepth 20000 in
theorem ggX7_end_X0_hasNumber : GoodIn wsX7_end wsX0_hasNumber := goodIn_r _ [8] (by decide +kernel) (by decide +kernel)
set_option maxRecDepth 20000 in
theorem gX7_end_X0_hasNumber : GoodIn wsX7_end (wsV RX7 249 RX0 yX0_hasNumber wsX0_hasNumber) := goodIn_app (goodIn_of _ (by decide +kernel)) ggX7_end_X0_hasNumber
set_option maxRecDepth 20000 in
theorem ggX7_end_X1_between : GoodIn wsX7_end wsX1_between := goodIn_r _ [13, 14, 15, 16, 17, 18, 19, 62, 63, 64, 65, 66, 67, 68, 69, 70, 71] (by decide +kernel) (by decide +kernel)
set_option maxRecDepth 20000 in
theorem gX7_end_X1_between : GoodIn wsX7_end (wsV RX7 250 RX1 yX1_between wsX1_between) := goodIn_app (goodIn_of _ (by decide +kernel)) ggX7_end_X1_between
set_option maxRecDepth 20000 in
theorem ggX7_end_X1_saidBits : GoodIn wsX7_end wsX1_saidBits := goodIn_r _ [23, 24, 62, 63, 64, 65, 66, 67, 68, 69, 70, 71] (by decide +kernel) (by decide +kernel)
set_option maxRecDepth 20000 in
theorem gX7_end_X1_saidBits : GoodIn wsX7_end (wsV RX7 165 RX1 yX1_saidBits wsX1_saidBits) := goodIn_app (goodIn_of _ (by decide +kernel)) ggX7_end_X1_saidBits
set_option maxRecDepth 20000 in
theorem ggX7_end_X1_hasToGoWith : GoodIn wsX7_end wsX1_hasToGoWith := goodIn_r _ [28, 14, 29, 30, 31, 32, 12, 33, 24, 34, 18, 35, 36, 37, 38, 39, 40, 41, 42, 43, 44, 17, 19, 62, 63, 64, 65, 66, 67, 68, 69, 70, 71] (by decide +kernel) (by decide +kernel)
set_option maxRecDepth 20000 in
theorem gX7_end_X1_hasToGoWith : GoodIn wsX7_end (wsV RX7 246 RX1 yX1_hasToGoWith wsX1_hasToGoWith) := goodIn_app (goodIn_of _ (by decide +kernel)) ggX7_end_X1_hasToGoWith
set_option maxRecDepth 20000 in
theorem ggX7_end_J6_bitCount_0f7a4 : GoodIn wsX7_end wsJ6_bitCount_0f7a4 := goodIn_r _ [48, 49, 50, 51] (by decide +kernel) (by decide +kernel)
set_option maxRecDepth 20000 in
theorem gX7_end_J6_bitCount_0f7a4 : GoodIn wsX7_end (va_wsS RX7 144 yJ6_bitCount_0f7a4 wsJ6_bitCount_0f7a4) := goodIn_app (goodIn_of _ (by decide +kernel)) ggX7_end_J6_bitCount_0f7a4
theorem dX7_end_0 : decode cX7_end 0 = .ok (.aload_n 0, 1) := by decide +kernel
theorem dX7_end_1 : decode cX7_end 1 = .ok (.getfield 45, 3) := by decide +kernel
theorem dX7_end_4 : decode cX7_end 4 = .ok (.iload_n 1, 1) := by decide +kernel
theorem dX7_end_5 : decode cX7_end 5 = .ok (.invokevirtual 249, 3) := by decide +kernel
theorem dX7_end_8 : decode cX7_end 8 = .ok (.ifCond .eq 19, 3) := by decide +kernel
theorem dX7_end_11 : decode cX7_end 11 = .ok (.aload_n 0, 1) := by decide +kernel
theorem dX7_end_12 : decode cX7_end 12 = .ok (.getfield 45, 3) := by decide +kernel
theorem dX7_end_15 : decode cX7_end 15 = .ok (.iload_n 2, 1) := by decide +kernel
theorem dX7_end_16 : decode cX7_end 16 = .ok (.invokevirtual 249, 3) := by decide +kernel
theorem dX7_end_19 : decode cX7_end 19 = .ok (.ifCond .eq 8, 3) := by decide +kernel
theorem dX7_end_22 : decode cX7_end 22 = .ok (.iload_n 1, 1) := by decide +kernel
theorem dX7_end_23 : decode cX7_end 23 = .ok (.iload_n 2, 1) := by decide +kernel
theorem dX7_end_24 : decode cX7_end 24 = .ok (.if_icmp .ne 5, 3) := by decide +kernel
theorem dX7_end_27 : decode cX7_end 27 = .ok (.iconst (-1), 1) := by decide +kernel
theorem dX7_end_28 : decode cX7_end 28 = .ok (.ireturn, 1) := by decide +kernel
theorem dX7_end_29 : decode cX7_end 29 = .ok (.aload_n 0, 1) := by decide +kernel
theorem dX7_end_30 : decode cX7_end 30 = .ok (.getfield 24, 3) := by decide +kernel
theorem dX7_end_33 : decode cX7_end 33 = .ok (.aload_n 0, 1) := by decide +kernel
theorem dX7_end_34 : decode cX7_end 34 = .ok (.getfield 24, 3) := by decide +kernel
theorem dX7_end_37 : decode cX7_end 37 = .ok (.iload_n 1, 1) := by decide +kernel
theorem dX7_end_38 : decode cX7_end 38 = .ok (.iload_n 2, 1) := by decide +kernel
theorem dX7_end_39 : decode cX7_end 39 = .ok (.invokevirtual 250, 3) := by decide +kernel
theorem dX7_end_42 : decode cX7_end 42 = .ok (.aload_n 0, 1) := by decide +kernel
theorem dX7_end_43 : decode cX7_end 43 = .ok (.getfield 24, 3) := by decide +kernel
theorem dX7_end_46 : decode cX7_end 46 = .ok (.invokevirtual 165, 3) := by decide +kernel
theorem dX7_end_49 : decode cX7_end 49 = .ok (.iand, 1) := by decide +kernel
theorem dX7_end_50 : decode cX7_end 50 = .ok (.invokevirtual 246, 3) := by decide +kernel
theorem dX7_end_53 : decode cX7_end 53 = .ok (.istore_n 3, 1) := by decide +kernel
theorem dX7_end_54 : decode cX7_end 54 = .ok (.aload_n 0, 1) := by decide +kernel
theorem dX7_end_55 : decode cX7_end 55 = .ok (.iload_n 3, 1) := by decide +kernel
theorem dX7_end_56 : decode cX7_end 56 = .ok (.invokestatic 144, 3) := by decide +kernel
theorem dX7_end_59 : decode cX7_end 59 = .ok (.putfield 63, 3) := by decide +kernel
theorem dX7_end_62 : decode cX7_end 62 = .ok (.iload_n 3, 1) := by decide +kernel
theorem dX7_end_63 : decode cX7_end 63 = .ok (.ireturn, 1) := by decide +kernel
set_option maxRecDepth 20000 in
theorem ggX7_rings_X1_personsOfSaid : GoodIn wsX7_rings wsX1_personsOfSaid := goodIn_r _ [8, 9, 10, 11, 12, 13, 14, 7, 15, 16, 17, 18, 19, 20, 21, 66, 67, 68, 69, 70, 71, 72, 73, 74, 75] (by decide +kernel) (by decide +kernel)
set_option maxRecDepth 20000 in
theorem gX7_rings_X1_personsOfSaid : GoodIn wsX7_rings (wsV RX7 253 RX1 yX1_personsOfSaid wsX1_personsOfSaid) := goodIn_app (goodIn_of _ (by decide +kernel)) ggX7_rings_X1_personsOfSaid
set_option maxRecDepth 20000 in
theorem ggX7_rings_J6_bitCount_0f7a4 : GoodIn wsX7_rings wsJ6_bitCount_0f7a4 := goodIn_r _ [25, 26, 27, 28] (by decide +kernel) (by decide +kernel)
set_option maxRecDepth 20000 in
theorem gX7_rings_J6_bitCount_0f7a4 : GoodIn wsX7_rings (va_wsS RX7 144 yJ6_bitCount_0f7a4 wsJ6_bitCount_0f7a4) := goodIn_app (goodIn_of _ (by decide +kernel)) ggX7_rings_J6_bitCount_0f7a4
set_option maxRecDepth 20000 in
theorem ggX7_rings_X0_inRings : GoodIn wsX7_rings wsX0_inRings := goodIn_r _ [33, 34, 35, 36, 37, 32, 38, 39, 40, 41, 42, 43, 44, 45, 7, 46, 9, 47, 48, 49, 50, 10, 51, 52, 53, 54, 11, 55, 13, 14, 15, 16, 17, 18, 19, 20, 21, 76, 66, 67, 68, 69, 70, 71, 72, 73, 74, 75] (by decide +kernel) (by decide +kernel)
set_option maxRecDepth 20000 in
theorem gX7_rings_X0_inRings : GoodIn wsX7_rings (wsV RX7 256 RX0 yX0_inRings wsX0_inRings) := goodIn_app (goodIn_of _ (by decide +kernel)) ggX7_rings_X0_inRings
theorem dX7_rings_0 : decode cX7_rings 0 = .ok (.aload_n 0, 1) := by decide +kernel
theorem dX7_rings_1 : decode cX7_rings 1 = .ok (.aload_n 0, 1) := by decide +kernel
theorem dX7_rings_2 : decode cX7_rings 2 = .ok (.getfield 24, 3) := by decide +kernel
theorem dX7_rings_5 : decode cX7_rings 5 = .ok (.invokevirtual 253, 3) := by decide +kernel
theorem dX7_rings_8 : decode cX7_rings 8 = .ok (.invokestatic 144, 3) := by decide +kernel
theorem dX7_rings_11 : decode cX7_rings 11 = .ok (.putfield 63, 3) := by decide +kernel
theorem dX7_rings_14 : decode cX7_rings 14 = .ok (.aload_n 0, 1) := by decide +kernel
theorem dX7_rings_15 : decode cX7_rings 15 = .ok (.getfield 45, 3) := by decide +kernel
theorem dX7_rings_18 : decode cX7_rings 18 = .ok (.aload_n 0, 1) := by decide +kernel
theorem dX7_rings_19 : decode cX7_rings 19 = .ok (.getfield 24, 3) := by decide +kernel
theorem dX7_rings_22 : decode cX7_rings 22 = .ok (.iconst 0, 1) := by decide +kernel
theorem dX7_rings_23 : decode cX7_rings 23 = .ok (.invokevirtual 256, 3) := by decide +kernel
theorem dX7_rings_26 : decode cX7_rings 26 = .ok (.ireturn, 1) := by decide +kernel
set_option maxRecDepth 20000 in
theorem ggX7_away_X0_fewestAway : GoodIn wsX7_away wsX0_fewestAway := goodIn_r _ [8, 9, 10, 11, 12, 13, 14, 15, 16, 17, 18, 7, 19, 20, 21, 22, 23, 24, 25, 26, 27, 28, 29, 30, 31, 32, 33, 34, 35, 36, 37, 38, 39, 40, 41, 42, 43, 44, 45, 46, 47, 48, 49, 50, 51, 52, 53, 54, 66, 67, 68, 69, 70, 71, 72, 73, 74, 75, 76] (by decide +kernel) (by decide +kernel)
set_option maxRecDepth 20000 in
theorem gX7_away_X0_fewestAway : GoodIn wsX7_away (wsV RX7 259 RX0 yX0_fewestAway wsX0_fewestAway) := goodIn_app (goodIn_of _ (by decide +kernel)) ggX7_away_X0_fewestAway
set_option maxRecDepth 20000 in
theorem ggX7_away_J6_bitCount_0f7a4 : GoodIn wsX7_away wsJ6_bitCount_0f7a4 := goodIn_r _ [12, 13, 14, 15] (by decide +kernel) (by decide +kernel)
set_option maxRecDepth 20000 in
theorem gX7_away_J6_bitCount_0f7a4 : GoodIn wsX7_away (va_wsS RX7 144 yJ6_bitCount_0f7a4 wsJ6_bitCount_0f7a4) := goodIn_app (goodIn_of _ (by decide +kernel)) ggX7_away_J6_bitCount_0f7a4
theorem dX7_away_0 : decode cX7_away 0 = .ok (.aload_n 0, 1) := by decide +kernel
theorem dX7_away_1 : decode cX7_away 1 = .ok (.aload_n 0, 1) := by decide +kernel
theorem dX7_away_2 : decode cX7_away 2 = .ok (.getfield 45, 3) := by decide +kernel
theorem dX7_away_5 : decode cX7_away 5 = .ok (.aload_n 0, 1) := by decide +kernel
theorem dX7_away_6 : decode cX7_away 6 = .ok (.getfield 24, 3) := by decide +kernel
theorem dX7_away_9 : decode cX7_away 9 = .ok (.invokevirtual 259, 3) := by decide +kernel
theorem dX7_away_12 : decode cX7_away 12 = .ok (.putfield 63, 3) := by decide +kernel
theorem dX7_away_15 : decode cX7_away 15 = .ok (.aload_n 0, 1) := by decide +kernel
theorem dX7_away_16 : decode cX7_away 16 = .ok (.getfield 63, 3) := by decide +kernel
theorem dX7_away_19 : decode cX7_away 19 = .ok (.invokestatic 144, 3) := by decide +kernel
theorem dX7_away_22 : decode cX7_away 22 = .ok (.ireturn, 1) := by decide +kernel
set_option maxRecDepth 20000 in
theorem ggX7_whose_X1_hasNumber : GoodIn wsX7_whose wsX1_hasNumber := goodIn_r _ [8, 9, 60, 61, 62, 63, 64, 65, 66, 67, 68, 69] (by decide +kernel) (by decide +kernel)
set_option maxRecDepth 20000 in
theorem gX7_whose_X1_hasNumber : GoodIn wsX7_whose (wsV RX7 130 RX1 yX1_hasNumber wsX1_hasNumber) := goodIn_app (goodIn_of _ (by decide +kernel)) ggX7_whose_X1_hasNumber
set_option maxRecDepth 20000 in
theorem ggX7_whose_X1_isOf : GoodIn wsX7_whose wsX1_isOf := goodIn_r _ [13, 14, 60, 61, 62, 63, 64, 65, 66, 67, 68, 69] (by decide +kernel) (by decide +kernel)
set_option maxRecDepth 20000 in
theorem gX7_whose_X1_isOf : GoodIn wsX7_whose (wsV RX7 134 RX1 yX1_isOf wsX1_isOf) := goodIn_app (goodIn_of _ (by decide +kernel)) ggX7_whose_X1_isOf
set_option maxRecDepth 20000 in
theorem ggX7_whose_X6_note : GoodIn wsX7_whose wsX6_note := goodIn_r _ [19, 20, 21, 70, 71] (by decide +kernel) (by decide +kernel)
set_option maxRecDepth 20000 in
theorem gX7_whose_X6_note : GoodIn wsX7_whose (wsV RX7 71 RX6 yX6_note wsX6_note) := goodIn_app (goodIn_of _ (by decide +kernel)) ggX7_whose_X6_note
set_option maxRecDepth 20000 in
theorem ggX7_whose_X0_suspects : GoodIn wsX7_whose wsX0_suspects := goodIn_r _ [26, 27, 28, 29, 7, 30, 31, 32, 5, 6, 8, 9, 33, 34, 35, 36, 37, 38, 39, 40, 41, 42, 43, 44, 45, 46, 47, 48, 49, 60, 61, 62, 63, 64, 65, 66, 67, 68, 69] (by decide +kernel) (by decide +kernel)
set_option maxRecDepth 20000 in
theorem gX7_whose_X0_suspects : GoodIn wsX7_whose (wsV RX7 149 RX0 yX0_suspects wsX0_suspects) := goodIn_app (goodIn_of _ (by decide +kernel)) ggX7_whose_X0_suspects
theorem dX7_whose_0 : decode cX7_whose 0 = .ok (.aload_n 0, 1) := by decide +kernel
theorem dX7_whose_1 : decode cX7_whose 1 = .ok (.getfield 24, 3) := by decide +kernel
theorem dX7_whose_4 : decode cX7_whose 4 = .ok (.iload_n 1, 1) := by decide +kernel
theorem dX7_whose_5 : decode cX7_whose 5 = .ok (.invokevirtual 130, 3) := by decide +kernel
theorem dX7_whose_8 : decode cX7_whose 8 = .ok (.ifCond .ne 5, 3) := by decide +kernel
theorem dX7_whose_11 : decode cX7_whose 11 = .ok (.iconst (-1), 1) := by decide +kernel
theorem dX7_whose_12 : decode cX7_whose 12 = .ok (.ireturn, 1) := by decide +kernel
theorem dX7_whose_13 : decode cX7_whose 13 = .ok (.aload_n 0, 1) := by decide +kernel
theorem dX7_whose_14 : decode cX7_whose 14 = .ok (.getfield 24, 3) := by decide +kernel
theorem dX7_whose_17 : decode cX7_whose 17 = .ok (.iload_n 1, 1) := by decide +kernel
theorem dX7_whose_18 : decode cX7_whose 18 = .ok (.iconst 2, 1) := by decide +kernel
theorem dX7_whose_19 : decode cX7_whose 19 = .ok (.invokevirtual 134, 3) := by decide +kernel
theorem dX7_whose_22 : decode cX7_whose 22 = .ok (.ifCond .ne 12, 3) := by decide +kernel
theorem dX7_whose_25 : decode cX7_whose 25 = .ok (.aload_n 0, 1) := by decide +kernel
theorem dX7_whose_26 : decode cX7_whose 26 = .ok (.getfield 59, 3) := by decide +kernel
theorem dX7_whose_29 : decode cX7_whose 29 = .ok (.iconst 3, 1) := by decide +kernel
theorem dX7_whose_30 : decode cX7_whose 30 = .ok (.invokevirtual 71, 3) := by decide +kernel
theorem dX7_whose_33 : decode cX7_whose 33 = .ok (.ireturn, 1) := by decide +kernel
theorem dX7_whose_34 : decode cX7_whose 34 = .ok (.aload_n 0, 1) := by decide +kernel
theorem dX7_whose_35 : decode cX7_whose 35 = .ok (.getfield 45, 3) := by decide +kernel
theorem dX7_whose_38 : decode cX7_whose 38 = .ok (.aload_n 0, 1) := by decide +kernel
theorem dX7_whose_39 : decode cX7_whose 39 = .ok (.getfield 24, 3) := by decide +kernel
theorem dX7_whose_42 : decode cX7_whose 42 = .ok (.iload_n 1, 1) := by decide +kernel
theorem dX7_whose_43 : decode cX7_whose 43 = .ok (.invokevirtual 149, 3) := by decide +kernel
theorem dX7_whose_46 : decode cX7_whose 46 = .ok (.ireturn, 1) := by decide +kernel
set_option maxRecDepth 20000 in
theorem ggX7_wash_X1_saidBeginnings : GoodIn wsX7_wash wsX1_saidBeginnings := goodIn_r _ [10, 11, 12, 13, 14, 15, 16, 9, 17, 18, 19, 20, 21, 22, 23, 24, 25, 26, 27, 28, 29, 30, 41, 42, 43, 44, 45, 46, 47, 48, 49, 50] (by decide +kernel) (by decide +kernel)
set_option maxRecDepth 20000 in
theorem gX7_wash_X1_saidBeginnings : GoodIn wsX7_wash (wsV RX7 262 RX1 yX1_saidBeginnings wsX1_saidBeginnings) := goodIn_app (goodIn_of _ (by decide +kernel)) ggX7_wash_X1_saidBeginnings
theorem dX7_wash_0 : decode cX7_wash 0 = .ok (.iconst 0, 1) := by decide +kernel
theorem dX7_wash_1 : decode cX7_wash 1 = .ok (.istore_n 1, 1) := by decide +kernel
theorem dX7_wash_2 : decode cX7_wash 2 = .ok (.iconst 0, 1) := by decide +kernel
theorem dX7_wash_3 : decode cX7_wash 3 = .ok (.istore_n 2, 1) := by decide +kernel
theorem dX7_wash_4 : decode cX7_wash 4 = .ok (.iload_n 2, 1) := by decide +kernel
theorem dX7_wash_5 : decode cX7_wash 5 = .ok (.bipush 6, 2) := by decide +kernel
theorem dX7_wash_7 : decode cX7_wash 7 = .ok (.if_icmp .ge 49, 3) := by decide +kernel
theorem dX7_wash_10 : decode cX7_wash 10 = .ok (.iload_n 2, 1) := by decide +kernel
theorem dX7_wash_11 : decode cX7_wash 11 = .ok (.iconst 1, 1) := by decide +kernel
theorem dX7_wash_12 : decode cX7_wash 12 = .ok (.iadd, 1) := by decide +kernel
theorem dX7_wash_13 : decode cX7_wash 13 = .ok (.istore_n 3, 1) := by decide +kernel
theorem dX7_wash_14 : decode cX7_wash 14 = .ok (.iload_n 3, 1) := by decide +kernel
theorem dX7_wash_15 : decode cX7_wash 15 = .ok (.bipush 6, 2) := by decide +kernel
theorem dX7_wash_17 : decode cX7_wash 17 = .ok (.if_icmp .ge 33, 3) := by decide +kernel
theorem dX7_wash_20 : decode cX7_wash 20 = .ok (.iload_n 1, 1) := by decide +kernel
theorem dX7_wash_21 : decode cX7_wash 21 = .ok (.aload_n 0, 1) := by decide +kernel
theorem dX7_wash_22 : decode cX7_wash 22 = .ok (.getfield 24, 3) := by decide +kernel
theorem dX7_wash_25 : decode cX7_wash 25 = .ok (.iload_n 2, 1) := by decide +kernel
theorem dX7_wash_26 : decode cX7_wash 26 = .ok (.iload_n 3, 1) := by decide +kernel
theorem dX7_wash_27 : decode cX7_wash 27 = .ok (.invokevirtual 262, 3) := by decide +kernel
theorem dX7_wash_30 : decode cX7_wash 30 = .ok (.aload_n 0, 1) := by decide +kernel
theorem dX7_wash_31 : decode cX7_wash 31 = .ok (.getfield 24, 3) := by decide +kernel
theorem dX7_wash_34 : decode cX7_wash 34 = .ok (.iload_n 3, 1) := by decide +kernel
theorem dX7_wash_35 : decode cX7_wash 35 = .ok (.iload_n 2, 1) := by decide +kernel
theorem dX7_wash_36 : decode cX7_wash 36 = .ok (.invokevirtual 262, 3) := by decide +kernel
theorem dX7_wash_39 : decode cX7_wash 39 = .ok (.invokestatic 265, 3) := by decide +kernel
theorem dX7_wash_42 : decode cX7_wash 42 = .ok (.iadd, 1) := by decide +kernel
theorem dX7_wash_43 : decode cX7_wash 43 = .ok (.istore_n 1, 1) := by decide +kernel
theorem dX7_wash_44 : decode cX7_wash 44 = .ok (.iinc 3 1, 3) := by decide +kernel
theorem dX7_wash_47 : decode cX7_wash 47 = .ok (.goto (-33), 3) := by decide +kernel
theorem dX7_wash_50 : decode cX7_wash 50 = .ok (.iinc 2 1, 3) := by decide +kernel
theorem dX7_wash_53 : decode cX7_wash 53 = .ok (.goto (-49), 3) := by decide +kernel
theorem dX7_wash_56 : decode cX7_wash 56 = .ok (.iload_n 1, 1) := by decide +kernel
theorem dX7_wash_57 : decode cX7_wash 57 = .ok (.ireturn, 1) := by decide +kernel
set_option maxRecDepth 20000 in
theorem ggX7_bill_X0_hasNumber : GoodIn wsX7_bill wsX0_hasNumber := goodIn_r _ [9] (by decide +kernel) (by decide +kernel)
set_option maxRecDepth 20000 in
theorem gX7_bill_X0_hasNumber : GoodIn wsX7_bill (wsV RX7 249 RX0 yX0_hasNumber wsX0_hasNumber) := goodIn_app (goodIn_of _ (by decide +kernel)) ggX7_bill_X0_hasNumber
set_option maxRecDepth 20000 in
theorem ggX7_bill_X1_saidBits : GoodIn wsX7_bill wsX1_saidBits := goodIn_r _ [14, 15, 105, 106, 107, 108, 109, 110, 111, 112, 113, 114] (by decide +kernel) (by decide +kernel)
set_option maxRecDepth 20000 in
theorem gX7_bill_X1_saidBits : GoodIn wsX7_bill (wsV RX7 165 RX1 yX1_saidBits wsX1_saidBits) := goodIn_app (goodIn_of _ (by decide +kernel)) ggX7_bill_X1_saidBits
set_option maxRecDepth 20000 in
theorem ggX7_bill_X6_note : GoodIn wsX7_bill wsX6_note := goodIn_r _ [20, 21, 22, 115, 116] (by decide +kernel) (by decide +kernel)
set_option maxRecDepth 20000 in
theorem gX7_bill_X6_note : GoodIn wsX7_bill (wsV RX7 71 RX6 yX6_note wsX6_note) := goodIn_app (goodIn_of _ (by decide +kernel)) ggX7_bill_X6_note
set_option maxRecDepth 20000 in
theorem ggX7_bill_X1_begunBy : GoodIn wsX7_bill wsX1_begunBy := goodIn_r _ [26, 27, 28, 29, 30, 31, 13, 32, 33, 34, 35, 36, 37, 38, 39, 40, 41, 42, 43, 44, 45, 46, 47, 48, 49, 105, 106, 107, 108, 109, 110, 111, 112, 113, 114] (by decide +kernel) (by decide +kernel)
set_option maxRecDepth 20000 in
theorem gX7_bill_X1_begunBy : GoodIn wsX7_bill (wsV RX7 270 RX1 yX1_begunBy wsX1_begunBy) := goodIn_app (goodIn_of _ (by decide +kernel)) ggX7_bill_X1_begunBy
set_option maxRecDepth 20000 in
theorem ggX7_bill_X1_pricesOf : GoodIn wsX7_bill wsX1_pricesOf := goodIn_r _ [53, 27, 15, 48, 43, 49, 54, 55, 56, 13, 57, 58, 59, 60, 61, 28, 62, 63, 64, 65, 66, 42, 44, 67, 68, 69, 70, 71, 72, 73, 74, 75, 76, 77, 78, 79, 80, 105, 106, 107, 108, 109, 110, 111, 112, 113, 114] (by decide +kernel) (by decide +kernel)
set_option maxRecDepth 20000 in
theorem gX7_bill_X1_pricesOf : GoodIn wsX7_bill (wsV RX7 273 RX1 yX1_pricesOf wsX1_pricesOf) := goodIn_app (goodIn_of _ (by decide +kernel)) ggX7_bill_X1_pricesOf
set_option maxRecDepth 20000 in
theorem ggX7_bill_X4_tell : GoodIn wsX7_bill wsX4_tell := goodIn_r _ [85, 86, 87, 88, 89, 90, 91, 92, 93, 84, 94, 117, 118] (by decide +kernel) (by decide +kernel)
set_option maxRecDepth 20000 in
theorem gX7_bill_X4_tell : GoodIn wsX7_bill (wsV RX7 233 RX4 yX4_tell wsX4_tell) := goodIn_app (goodIn_of _ (by decide +kernel)) ggX7_bill_X4_tell
theorem dX7_bill_0 : decode cX7_bill 0 = .ok (.aload_n 0, 1) := by decide +kernel
theorem dX7_bill_1 : decode cX7_bill 1 = .ok (.getfield 45, 3) := by decide +kernel
theorem dX7_bill_4 : decode cX7_bill 4 = .ok (.iload_n 1, 1) := by decide +kernel
theorem dX7_bill_5 : decode cX7_bill 5 = .ok (.invokevirtual 249, 3) := by decide +kernel
theorem dX7_bill_8 : decode cX7_bill 8 = .ok (.ifCond .ne 5, 3) := by decide +kernel
theorem dX7_bill_11 : decode cX7_bill 11 = .ok (.iconst (-1), 1) := by decide +kernel
theorem dX7_bill_12 : decode cX7_bill 12 = .ok (.ireturn, 1) := by decide +kernel
theorem dX7_bill_13 : decode cX7_bill 13 = .ok (.aload_n 0, 1) := by decide +kernel
theorem dX7_bill_14 : decode cX7_bill 14 = .ok (.getfield 24, 3) := by decide +kernel
theorem dX7_bill_17 : decode cX7_bill 17 = .ok (.invokevirtual 165, 3) := by decide +kernel
theorem dX7_bill_20 : decode cX7_bill 20 = .ok (.istore_n 2, 1) := by decide +kernel
theorem dX7_bill_21 : decode cX7_bill 21 = .ok (.iload_n 2, 1) := by decide +kernel
theorem dX7_bill_22 : decode cX7_bill 22 = .ok (.ifCond .ne 12, 3) := by decide +kernel
theorem dX7_bill_25 : decode cX7_bill 25 = .ok (.aload_n 0, 1) := by decide +kernel
theorem dX7_bill_26 : decode cX7_bill 26 = .ok (.getfield 59, 3) := by decide +kernel
theorem dX7_bill_29 : decode cX7_bill 29 = .ok (.iconst 4, 1) := by decide +kernel
theorem dX7_bill_30 : decode cX7_bill 30 = .ok (.invokevirtual 71, 3) := by decide +kernel
theorem dX7_bill_33 : decode cX7_bill 33 = .ok (.ireturn, 1) := by decide +kernel
theorem dX7_bill_34 : decode cX7_bill 34 = .ok (.aload_n 0, 1) := by decide +kernel
theorem dX7_bill_35 : decode cX7_bill 35 = .ok (.getfield 52, 3) := by decide +kernel
theorem dX7_bill_38 : decode cX7_bill 38 = .ok (.aload_n 0, 1) := by decide +kernel
theorem dX7_bill_39 : decode cX7_bill 39 = .ok (.getfield 24, 3) := by decide +kernel
theorem dX7_bill_42 : decode cX7_bill 42 = .ok (.iload_n 2, 1) := by decide +kernel
theorem dX7_bill_43 : decode cX7_bill 43 = .ok (.aload_n 0, 1) := by decide +kernel
theorem dX7_bill_44 : decode cX7_bill 44 = .ok (.getfield 24, 3) := by decide +kernel
theorem dX7_bill_47 : decode cX7_bill 47 = .ok (.iload_n 1, 1) := by decide +kernel
theorem dX7_bill_48 : decode cX7_bill 48 = .ok (.invokevirtual 270, 3) := by decide +kernel
theorem dX7_bill_51 : decode cX7_bill 51 = .ok (.iand, 1) := by decide +kernel
theorem dX7_bill_52 : decode cX7_bill 52 = .ok (.invokevirtual 273, 3) := by decide +kernel
theorem dX7_bill_55 : decode cX7_bill 55 = .ok (.i2l, 1) := by decide +kernel
theorem dX7_bill_56 : decode cX7_bill 56 = .ok (.aload_n 0, 1) := by decide +kernel
theorem dX7_bill_57 : decode cX7_bill 57 = .ok (.getfield 24, 3) := by decide +kernel
theorem dX7_bill_60 : decode cX7_bill 60 = .ok (.iload_n 2, 1) := by decide +kernel
theorem dX7_bill_61 : decode cX7_bill 61 = .ok (.invokevirtual 273, 3) := by decide +kernel
theorem dX7_bill_64 : decode cX7_bill 64 = .ok (.i2l, 1) := by decide +kernel
theorem dX7_bill_65 : decode cX7_bill 65 = .ok (.invokevirtual 233, 3) := by decide +kernel
theorem dX7_bill_68 : decode cX7_bill 68 = .ok (.iconst 1, 1) := by decide +kernel
theorem dX7_bill_69 : decode cX7_bill 69 = .ok (.ireturn, 1) := by decide +kernel
set_option maxRecDepth 20000 in
theorem ggX7_colour_X1_hasNumber : GoodIn wsX7_colour wsX1_hasNumber := goodIn_r _ [6, 7, 48, 49, 50, 51, 52, 53, 54, 55, 56, 57] (by decide +kernel) (by decide +kernel)
set_option maxRecDepth 20000 in
theorem gX7_colour_X1_hasNumber : GoodIn wsX7_colour (wsV RX7 130 RX1 yX1_hasNumber wsX1_hasNumber) := goodIn_app (goodIn_of _ (by decide +kernel)) ggX7_colour_X1_hasNumber
set_option maxRecDepth 20000 in
theorem ggX7_colour_X1_answerers : GoodIn wsX7_colour wsX1_answerers := goodIn_r _ [11, 7, 12, 13, 14, 15, 48, 49, 50, 51, 52, 53, 54, 55, 56, 57] (by decide +kernel) (by decide +kernel)
set_option maxRecDepth 20000 in
theorem gX7_colour_X1_answerers : GoodIn wsX7_colour (wsV RX7 162 RX1 yX1_answerers wsX1_answerers) := goodIn_app (goodIn_of _ (by decide +kernel)) ggX7_colour_X1_answerers
set_option maxRecDepth 20000 in
theorem ggX7_colour_X1_saidBits : GoodIn wsX7_colour wsX1_saidBits := goodIn_r _ [19, 20, 48, 49, 50, 51, 52, 53, 54, 55, 56, 57] (by decide +kernel) (by decide +kernel)
set_option maxRecDepth 20000 in
theorem gX7_colour_X1_saidBits : GoodIn wsX7_colour (wsV RX7 165 RX1 yX1_saidBits wsX1_saidBits) := goodIn_app (goodIn_of _ (by decide +kernel)) ggX7_colour_X1_saidBits
set_option maxRecDepth 20000 in
theorem ggX7_colour_J6_bitCount_0f7a4 : GoodIn wsX7_colour wsJ6_bitCount_0f7a4 := goodIn_r _ [24, 25, 26, 27] (by decide +kernel) (by decide +kernel)
set_option maxRecDepth 20000 in
theorem gX7_colour_J6_bitCount_0f7a4 : GoodIn wsX7_colour (va_wsS RX7 144 yJ6_bitCount_0f7a4 wsJ6_bitCount_0f7a4) := goodIn_app (goodIn_of _ (by decide +kernel)) ggX7_colour_J6_bitCount_0f7a4
set_option maxRecDepth 20000 in
theorem ggX7_colour_X1_isOf : GoodIn wsX7_colour wsX1_isOf := goodIn_r _ [31, 32, 48, 49, 50, 51, 52, 53, 54, 55, 56, 57] (by decide +kernel) (by decide +kernel)
set_option maxRecDepth 20000 in
theorem gX7_colour_X1_isOf : GoodIn wsX7_colour (wsV RX7 134 RX1 yX1_isOf wsX1_isOf) := goodIn_app (goodIn_of _ (by decide +kernel)) ggX7_colour_X1_isOf
set_option maxRecDepth 20000 in
theorem ggX7_colour_X1_topicOf : GoodIn wsX7_colour wsX1_topicOf := goodIn_r _ [36, 37, 48, 49, 50, 51, 52, 53, 54, 55, 56, 57] (by decide +kernel) (by decide +kernel)
set_option maxRecDepth 20000 in
theorem gX7_colour_X1_topicOf : GoodIn wsX7_colour (wsV RX7 276 RX1 yX1_topicOf wsX1_topicOf) := goodIn_app (goodIn_of _ (by decide +kernel)) ggX7_colour_X1_topicOf
theorem dX7_colour_0 : decode cX7_colour 0 = .ok (.aload_n 0, 1) := by decide +kernel
theorem dX7_colour_1 : decode cX7_colour 1 = .ok (.getfield 24, 3) := by decide +kernel
theorem dX7_colour_4 : decode cX7_colour 4 = .ok (.iload_n 1, 1) := by decide +kernel
theorem dX7_colour_5 : decode cX7_colour 5 = .ok (.invokevirtual 130, 3) := by decide +kernel
theorem dX7_colour_8 : decode cX7_colour 8 = .ok (.ifCond .eq 13, 3) := by decide +kernel
theorem dX7_colour_11 : decode cX7_colour 11 = .ok (.iload_n 2, 1) := by decide +kernel
theorem dX7_colour_12 : decode cX7_colour 12 = .ok (.ifCond .lt 9, 3) := by decide +kernel
theorem dX7_colour_15 : decode cX7_colour 15 = .ok (.iload_n 2, 1) := by decide +kernel
theorem dX7_colour_16 : decode cX7_colour 16 = .ok (.bipush 20, 2) := by decide +kernel
theorem dX7_colour_18 : decode cX7_colour 18 = .ok (.if_icmp .le 5, 3) := by decide +kernel
theorem dX7_colour_21 : decode cX7_colour 21 = .ok (.iconst (-1), 1) := by decide +kernel
theorem dX7_colour_22 : decode cX7_colour 22 = .ok (.ireturn, 1) := by decide +kernel
theorem dX7_colour_23 : decode cX7_colour 23 = .ok (.aload_n 0, 1) := by decide +kernel
theorem dX7_colour_24 : decode cX7_colour 24 = .ok (.getfield 24, 3) := by decide +kernel
theorem dX7_colour_27 : decode cX7_colour 27 = .ok (.iload_n 1, 1) := by decide +kernel
theorem dX7_colour_28 : decode cX7_colour 28 = .ok (.invokevirtual 162, 3) := by decide +kernel
theorem dX7_colour_31 : decode cX7_colour 31 = .ok (.aload_n 0, 1) := by decide +kernel
theorem dX7_colour_32 : decode cX7_colour 32 = .ok (.getfield 24, 3) := by decide +kernel
theorem dX7_colour_35 : decode cX7_colour 35 = .ok (.invokevirtual 165, 3) := by decide +kernel
theorem dX7_colour_38 : decode cX7_colour 38 = .ok (.iand, 1) := by decide +kernel
theorem dX7_colour_39 : decode cX7_colour 39 = .ok (.invokestatic 144, 3) := by decide +kernel
theorem dX7_colour_42 : decode cX7_colour 42 = .ok (.istore_n 3, 1) := by decide +kernel
theorem dX7_colour_43 : decode cX7_colour 43 = .ok (.aload_n 0, 1) := by decide +kernel
theorem dX7_colour_44 : decode cX7_colour 44 = .ok (.getfield 24, 3) := by decide +kernel
theorem dX7_colour_47 : decode cX7_colour 47 = .ok (.iload_n 1, 1) := by decide +kernel
theorem dX7_colour_48 : decode cX7_colour 48 = .ok (.iconst 5, 1) := by decide +kernel
theorem dX7_colour_49 : decode cX7_colour 49 = .ok (.invokevirtual 134, 3) := by decide +kernel
theorem dX7_colour_52 : decode cX7_colour 52 = .ok (.ifCond .eq 6, 3) := by decide +kernel
theorem dX7_colour_55 : decode cX7_colour 55 = .ok (.iinc 3 2, 3) := by decide +kernel
theorem dX7_colour_58 : decode cX7_colour 58 = .ok (.aload_n 0, 1) := by decide +kernel
theorem dX7_colour_59 : decode cX7_colour 59 = .ok (.getfield 24, 3) := by decide +kernel
theorem dX7_colour_62 : decode cX7_colour 62 = .ok (.iload_n 1, 1) := by decide +kernel
theorem dX7_colour_63 : decode cX7_colour 63 = .ok (.invokevirtual 276, 3) := by decide +kernel
theorem dX7_colour_66 : decode cX7_colour 66 = .ok (.iload_n 2, 1) := by decide +kernel
theorem dX7_colour_67 : decode cX7_colour 67 = .ok (.iload_n 3, 1) := by decide +kernel
theorem dX7_colour_68 : decode cX7_colour 68 = .ok (.imul, 1) := by decide +kernel
theorem dX7_colour_69 : decode cX7_colour 69 = .ok (.iadd, 1) := by decide +kernel
theorem dX7_colour_70 : decode cX7_colour 70 = .ok (.bipush 6, 2) := by decide +kernel
theorem dX7_colour_72 : decode cX7_colour 72 = .ok (.irem, 1) := by decide +kernel
theorem dX7_colour_73 : decode cX7_colour 73 = .ok (.ireturn, 1) := by decide +kernel
set_option maxRecDepth 20000 in
theorem ggX7_lots_X1_saidBits : GoodIn wsX7_lots wsX1_saidBits := goodIn_r _ [8, 9, 99, 100, 101, 102, 103, 104, 105, 106, 107, 108] (by decide +kernel) (by decide +kernel)
set_option maxRecDepth 20000 in
theorem gX7_lots_X1_saidBits : GoodIn wsX7_lots (wsV RX7 165 RX1 yX1_saidBits wsX1_saidBits) := goodIn_app (goodIn_of _ (by decide +kernel)) ggX7_lots_X1_saidBits
set_option maxRecDepth 20000 in
theorem ggX7_lots_X1_freeAmong : GoodIn wsX7_lots wsX1_freeAmong := goodIn_r _ [13, 14, 15, 16, 17, 7, 18, 19, 20, 21, 22, 23, 24, 25, 26, 27, 28, 29, 30, 31, 32, 33, 99, 100, 101, 102, 103, 104, 105, 106, 107, 108] (by decide +kernel) (by decide +kernel)
set_option maxRecDepth 20000 in
theorem gX7_lots_X1_freeAmong : GoodIn wsX7_lots (wsV RX7 197 RX1 yX1_freeAmong wsX1_freeAmong) := goodIn_app (goodIn_of _ (by decide +kernel)) ggX7_lots_X1_freeAmong
set_option maxRecDepth 20000 in
theorem ggX7_lots_X1_deedsAreFull : GoodIn wsX7_lots wsX1_deedsAreFull := goodIn_r _ [37, 38, 99, 100, 101, 102, 103, 104, 105, 106, 107, 108] (by decide +kernel) (by decide +kernel)
set_option maxRecDepth 20000 in
theorem gX7_lots_X1_deedsAreFull : GoodIn wsX7_lots (wsV RX7 175 RX1 yX1_deedsAreFull wsX1_deedsAreFull) := goodIn_app (goodIn_of _ (by decide +kernel)) ggX7_lots_X1_deedsAreFull
set_option maxRecDepth 20000 in
theorem ggX7_lots_J6_bitCount_0f7a4 : GoodIn wsX7_lots wsJ6_bitCount_0f7a4 := goodIn_r _ [42, 43, 44, 45] (by decide +kernel) (by decide +kernel)
set_option maxRecDepth 20000 in
theorem gX7_lots_J6_bitCount_0f7a4 : GoodIn wsX7_lots (va_wsS RX7 144 yJ6_bitCount_0f7a4 wsJ6_bitCount_0f7a4) := goodIn_app (goodIn_of _ (by decide +kernel)) ggX7_lots_J6_bitCount_0f7a4
set_option maxRecDepth 20000 in
theorem ggX7_lots_X7_numberAt : GoodIn wsX7_lots wsX7_numberAt := goodIn_r _ [48, 49, 19, 20, 21] (by decide +kernel) (by decide +kernel)
set_option maxRecDepth 20000 in
theorem gX7_lots_X7_numberAt : GoodIn wsX7_lots (va_wsS RX7 218 yX7_numberAt wsX7_numberAt) := goodIn_app (goodIn_of _ (by decide +kernel)) ggX7_lots_X7_numberAt
set_option maxRecDepth 20000 in
theorem ggX7_lots_X1_takeBack : GoodIn wsX7_lots wsX1_takeBack := goodIn_r _ [53, 9, 54, 55, 56, 7, 57, 14, 58, 59, 60, 61, 62, 63, 64, 65, 66, 67, 68, 69, 70, 71, 72, 73, 74, 75, 32, 20, 33, 76, 40, 41, 42, 43, 44, 45, 77, 78, 79, 80, 26, 81, 82, 83, 84, 85, 86, 87, 38, 88, 35, 36, 37, 99, 100, 101, 102, 103, 104, 105, 106, 107, 108] (by decide +kernel) (by decide +kernel)
set_option maxRecDepth 20000 in
theorem gX7_lots_X1_takeBack : GoodIn wsX7_lots (wsV RX7 188 RX1 yX1_takeBack wsX1_takeBack) := goodIn_app (goodIn_of _ (by decide +kernel)) ggX7_lots_X1_takeBack
theorem dX7_lots_0 : decode cX7_lots 0 = .ok (.iload_n 1, 1) := by decide +kernel
theorem dX7_lots_1 : decode cX7_lots 1 = .ok (.iconst 1, 1) := by decide +kernel
theorem dX7_lots_2 : decode cX7_lots 2 = .ok (.if_icmp .lt 23, 3) := by decide +kernel
theorem dX7_lots_5 : decode cX7_lots 5 = .ok (.iload_n 1, 1) := by decide +kernel
theorem dX7_lots_6 : decode cX7_lots 6 = .ok (.bipush 12, 2) := by decide +kernel
theorem dX7_lots_8 : decode cX7_lots 8 = .ok (.if_icmp .gt 17, 3) := by decide +kernel
theorem dX7_lots_11 : decode cX7_lots 11 = .ok (.iload_n 2, 1) := by decide +kernel
theorem dX7_lots_12 : decode cX7_lots 12 = .ok (.iconst 1, 1) := by decide +kernel
theorem dX7_lots_13 : decode cX7_lots 13 = .ok (.if_icmp .lt 12, 3) := by decide +kernel
theorem dX7_lots_16 : decode cX7_lots 16 = .ok (.iload_n 2, 1) := by decide +kernel
theorem dX7_lots_17 : decode cX7_lots 17 = .ok (.i2l, 1) := by decide +kernel
theorem dX7_lots_18 : decode cX7_lots 18 = .ok (.ldc2_w 279, 3) := by decide +kernel
theorem dX7_lots_21 : decode cX7_lots 21 = .ok (.lcmp, 1) := by decide +kernel
theorem dX7_lots_22 : decode cX7_lots 22 = .ok (.ifCond .lt 5, 3) := by decide +kernel
theorem dX7_lots_25 : decode cX7_lots 25 = .ok (.iconst (-1), 1) := by decide +kernel
theorem dX7_lots_26 : decode cX7_lots 26 = .ok (.ireturn, 1) := by decide +kernel
theorem dX7_lots_27 : decode cX7_lots 27 = .ok (.iload_n 2, 1) := by decide +kernel
theorem dX7_lots_28 : decode cX7_lots 28 = .ok (.i2l, 1) := by decide +kernel
theorem dX7_lots_29 : decode cX7_lots 29 = .ok (.lstore_n 3, 1) := by decide +kernel
theorem dX7_lots_30 : decode cX7_lots 30 = .ok (.iconst 0, 1) := by decide +kernel
theorem dX7_lots_31 : decode cX7_lots 31 = .ok (.istore 5, 2) := by decide +kernel
theorem dX7_lots_33 : decode cX7_lots 33 = .ok (.iconst 0, 1) := by decide +kernel
theorem dX7_lots_34 : decode cX7_lots 34 = .ok (.istore 6, 2) := by decide +kernel
theorem dX7_lots_36 : decode cX7_lots 36 = .ok (.iload 6, 2) := by decide +kernel
theorem dX7_lots_38 : decode cX7_lots 38 = .ok (.iload_n 1, 1) := by decide +kernel
theorem dX7_lots_39 : decode cX7_lots 39 = .ok (.if_icmp .ge 79, 3) := by decide +kernel
theorem dX7_lots_42 : decode cX7_lots 42 = .ok (.aload_n 0, 1) := by decide +kernel
theorem dX7_lots_43 : decode cX7_lots 43 = .ok (.getfield 24, 3) := by decide +kernel
theorem dX7_lots_46 : decode cX7_lots 46 = .ok (.aload_n 0, 1) := by decide +kernel
theorem dX7_lots_47 : decode cX7_lots 47 = .ok (.getfield 24, 3) := by decide +kernel
theorem dX7_lots_50 : decode cX7_lots 50 = .ok (.invokevirtual 165, 3) := by decide +kernel
theorem dX7_lots_53 : decode cX7_lots 53 = .ok (.invokevirtual 197, 3) := by decide +kernel
theorem dX7_lots_56 : decode cX7_lots 56 = .ok (.istore 7, 2) := by decide +kernel
theorem dX7_lots_58 : decode cX7_lots 58 = .ok (.iload 7, 2) := by decide +kernel
theorem dX7_lots_60 : decode cX7_lots 60 = .ok (.ifCond .eq 58, 3) := by decide +kernel
theorem dX7_lots_63 : decode cX7_lots 63 = .ok (.aload_n 0, 1) := by decide +kernel
theorem dX7_lots_64 : decode cX7_lots 64 = .ok (.getfield 24, 3) := by decide +kernel
theorem dX7_lots_67 : decode cX7_lots 67 = .ok (.invokevirtual 175, 3) := by decide +kernel
theorem dX7_lots_70 : decode cX7_lots 70 = .ok (.ifCond .eq 6, 3) := by decide +kernel
theorem dX7_lots_73 : decode cX7_lots 73 = .ok (.goto 45, 3) := by decide +kernel
theorem dX7_lots_76 : decode cX7_lots 76 = .ok (.lload_n 3, 1) := by decide +kernel
theorem dX7_lots_77 : decode cX7_lots 77 = .ok (.ldc2_w 281, 3) := by decide +kernel
theorem dX7_lots_80 : decode cX7_lots 80 = .ok (.lmul, 1) := by decide +kernel
theorem dX7_lots_81 : decode cX7_lots 81 = .ok (.ldc2_w 279, 3) := by decide +kernel
theorem dX7_lots_84 : decode cX7_lots 84 = .ok (.lrem, 1) := by decide +kernel
theorem dX7_lots_85 : decode cX7_lots 85 = .ok (.lstore_n 3, 1) := by decide +kernel
theorem dX7_lots_86 : decode cX7_lots 86 = .ok (.iload 5, 2) := by decide +kernel
theorem dX7_lots_88 : decode cX7_lots 88 = .ok (.aload_n 0, 1) := by decide +kernel
theorem dX7_lots_89 : decode cX7_lots 89 = .ok (.getfield 24, 3) := by decide +kernel
theorem dX7_lots_92 : decode cX7_lots 92 = .ok (.iload 7, 2) := by decide +kernel
theorem dX7_lots_94 : decode cX7_lots 94 = .ok (.lload_n 3, 1) := by decide +kernel
theorem dX7_lots_95 : decode cX7_lots 95 = .ok (.iload 7, 2) := by decide +kernel
theorem dX7_lots_97 : decode cX7_lots 97 = .ok (.invokestatic 144, 3) := by decide +kernel
theorem dX7_lots_100 : decode cX7_lots 100 = .ok (.i2l, 1) := by decide +kernel
theorem dX7_lots_101 : decode cX7_lots 101 = .ok (.lrem, 1) := by decide +kernel
theorem dX7_lots_102 : decode cX7_lots 102 = .ok (.l2i, 1) := by decide +kernel
theorem dX7_lots_103 : decode cX7_lots 103 = .ok (.invokestatic 218, 3) := by decide +kernel
theorem dX7_lots_106 : decode cX7_lots 106 = .ok (.invokevirtual 188, 3) := by decide +kernel
theorem dX7_lots_109 : decode cX7_lots 109 = .ok (.iadd, 1) := by decide +kernel
theorem dX7_lots_110 : decode cX7_lots 110 = .ok (.istore 5, 2) := by decide +kernel
theorem dX7_lots_112 : decode cX7_lots 112 = .ok (.iinc 6 1, 3) := by decide +kernel
theorem dX7_lots_115 : decode cX7_lots 115 = .ok (.goto (-79), 3) := by decide +kernel
theorem dX7_lots_118 : decode cX7_lots 118 = .ok (.iload 5, 2) := by decide +kernel
theorem dX7_lots_120 : decode cX7_lots 120 = .ok (.ireturn, 1) := by decide +kernel
theorem dX7_asked_0 : decode cX7_asked 0 = .ok (.aload_n 0, 1) := by decide +kernel
theorem dX7_asked_1 : decode cX7_asked 1 = .ok (.getfield 63, 3) := by decide +kernel
theorem dX7_asked_4 : decode cX7_asked 4 = .ok (.ireturn, 1) := by decide +kernel
set_option maxRecDepth 20000 in
theorem ggX7_upper_X4_top : GoodIn wsX7_upper wsX4_top := goodIn_r _ [6, 7, 18, 19] (by decide +kernel) (by decide +kernel)
set_option maxRecDepth 20000 in
theorem gX7_upper_X4_top : GoodIn wsX7_upper (wsV RX7 283 RX4 yX4_top wsX4_top) := goodIn_app (goodIn_of _ (by decide +kernel)) ggX7_upper_X4_top
theorem dX7_upper_0 : decode cX7_upper 0 = .ok (.aload_n 0, 1) := by decide +kernel
theorem dX7_upper_1 : decode cX7_upper 1 = .ok (.getfield 52, 3) := by decide +kernel
theorem dX7_upper_4 : decode cX7_upper 4 = .ok (.invokevirtual 283, 3) := by decide +kernel
theorem dX7_upper_7 : decode cX7_upper 7 = .ok (.lreturn, 1) := by decide +kernel
set_option maxRecDepth 20000 in
theorem ggX7_lower_X4_bottom : GoodIn wsX7_lower wsX4_bottom := goodIn_r _ [6, 7, 18, 19] (by decide +kernel) (by decide +kernel)
set_option maxRecDepth 20000 in
theorem gX7_lower_X4_bottom : GoodIn wsX7_lower (wsV RX7 287 RX4 yX4_bottom wsX4_bottom) := goodIn_app (goodIn_of _ (by decide +kernel)) ggX7_lower_X4_bottom
theorem dX7_lower_0 : decode cX7_lower 0 = .ok (.aload_n 0, 1) := by decide +kernel
theorem dX7_lower_1 : decode cX7_lower 1 = .ok (.getfield 52, 3) := by decide +kernel
theorem dX7_lower_4 : decode cX7_lower 4 = .ok (.invokevirtual 287, 3) := by decide +kernel
theorem dX7_lower_7 : decode cX7_lower 7 = .ok (.lreturn, 1) := by decide +kernel
set_option maxRecDepth 20000 in
theorem ggX7_count_X1_howMany : GoodIn wsX7_count wsX1_howMany := goodIn_r _ [8, 9, 104, 105, 106, 107, 108, 109, 110, 111, 112, 113] (by decide +kernel) (by decide +kernel)
set_option maxRecDepth 20000 in
theorem gX7_count_X1_howMany : GoodIn wsX7_count (wsV RX7 126 RX1 yX1_howMany wsX1_howMany) := goodIn_app (goodIn_of _ (by decide +kernel)) ggX7_count_X1_howMany
set_option maxRecDepth 20000 in
theorem ggX7_count_X1_saidBits : GoodIn wsX7_count wsX1_saidBits := goodIn_r _ [13, 14, 104, 105, 106, 107, 108, 109, 110, 111, 112, 113] (by decide +kernel) (by decide +kernel)
set_option maxRecDepth 20000 in
theorem gX7_count_X1_saidBits : GoodIn wsX7_count (wsV RX7 165 RX1 yX1_saidBits wsX1_saidBits) := goodIn_app (goodIn_of _ (by decide +kernel)) ggX7_count_X1_saidBits
set_option maxRecDepth 20000 in
theorem ggX7_count_J6_bitCount_0f7a4 : GoodIn wsX7_count wsJ6_bitCount_0f7a4 := goodIn_r _ [18, 19, 20, 21] (by decide +kernel) (by decide +kernel)
set_option maxRecDepth 20000 in
theorem gX7_count_J6_bitCount_0f7a4 : GoodIn wsX7_count (va_wsS RX7 144 yJ6_bitCount_0f7a4 wsJ6_bitCount_0f7a4) := goodIn_app (goodIn_of _ (by decide +kernel)) ggX7_count_J6_bitCount_0f7a4
set_option maxRecDepth 20000 in
theorem ggX7_count_X1_howManyDeeds : GoodIn wsX7_count wsX1_howManyDeeds := goodIn_r _ [25, 26, 104, 105, 106, 107, 108, 109, 110, 111, 112, 113] (by decide +kernel) (by decide +kernel)
set_option maxRecDepth 20000 in
theorem gX7_count_X1_howManyDeeds : GoodIn wsX7_count (wsV RX7 191 RX1 yX1_howManyDeeds wsX1_howManyDeeds) := goodIn_app (goodIn_of _ (by decide +kernel)) ggX7_count_X1_howManyDeeds
set_option maxRecDepth 20000 in
theorem ggX7_count_X1_pricesOf : GoodIn wsX7_count wsX1_pricesOf := goodIn_r _ [30, 9, 14, 31, 32, 33, 34, 35, 36, 7, 37, 38, 39, 40, 41, 42, 43, 44, 45, 46, 47, 48, 49, 50, 16, 17, 18, 19, 20, 21, 51, 52, 53, 54, 55, 56, 57, 104, 105, 106, 107, 108, 109, 110, 111, 112, 113] (by decide +kernel) (by decide +kernel)
set_option maxRecDepth 20000 in
theorem gX7_count_X1_pricesOf : GoodIn wsX7_count (wsV RX7 273 RX1 yX1_pricesOf wsX1_pricesOf) := goodIn_app (goodIn_of _ (by decide +kernel)) ggX7_count_X1_pricesOf
set_option maxRecDepth 20000 in
theorem ggX7_count_X1_beginners : GoodIn wsX7_count wsX1_beginners := goodIn_r _ [61, 9, 42, 62, 63, 64, 7, 65, 66, 67, 68, 69, 70, 48, 32, 49, 104, 105, 106, 107, 108, 109, 110, 111, 112, 113] (by decide +kernel) (by decide +kernel)
set_option maxRecDepth 20000 in
theorem gX7_count_X1_beginners : GoodIn wsX7_count (wsV RX7 290 RX1 yX1_beginners wsX1_beginners) := goodIn_app (goodIn_of _ (by decide +kernel)) ggX7_count_X1_beginners
set_option maxRecDepth 20000 in
theorem ggX7_count_X1_howManyOf : GoodIn wsX7_count wsX1_howManyOf := goodIn_r _ [74, 9, 75, 76, 77, 7, 78, 55, 104, 105, 106, 107, 108, 109, 110, 111, 112, 113] (by decide +kernel) (by decide +kernel)
set_option maxRecDepth 20000 in
theorem gX7_count_X1_howManyOf : GoodIn wsX7_count (wsV RX7 293 RX1 yX1_howManyOf wsX1_howManyOf) := goodIn_app (goodIn_of _ (by decide +kernel)) ggX7_count_X1_howManyOf
set_option maxRecDepth 20000 in
theorem ggX7_count_X5_howManyThere : GoodIn wsX7_count wsX5_howManyThere := goodIn_r _ [83, 84, 85, 86, 87, 82, 88, 114, 115, 116] (by decide +kernel) (by decide +kernel)
set_option maxRecDepth 20000 in
theorem gX7_count_X5_howManyThere : GoodIn wsX7_count (wsV RX7 296 RX5 yX5_howManyThere wsX5_howManyThere) := goodIn_app (goodIn_of _ (by decide +kernel)) ggX7_count_X5_howManyThere
set_option maxRecDepth 20000 in
theorem ggX7_count_X7_howManyKept : GoodIn wsX7_count wsX7_howManyKept := goodIn_r _ [92, 93, 94, 95, 96, 97, 98, 99, 100, 101, 102, 103] (by decide +kernel) (by decide +kernel)
set_option maxRecDepth 20000 in
theorem gX7_count_X7_howManyKept : GoodIn wsX7_count (wsV RX7 299 RX7 yX7_howManyKept wsX7_howManyKept) := goodIn_app (goodIn_of _ (by decide +kernel)) ggX7_count_X7_howManyKept
theorem dX7_count_0 : decode cX7_count 0 = .ok (.iload_n 1, 1) := by decide +kernel
theorem dX7_count_1 : decode cX7_count 1 = .ok (.tableswitch 134 0 8 #[51, 59, 70, 78, 93, 104, 113, 121, 129], 51) := by decide +kernel
theorem dX7_count_52 : decode cX7_count 52 = .ok (.aload_n 0, 1) := by decide +kernel
theorem dX7_count_53 : decode cX7_count 53 = .ok (.getfield 24, 3) := by decide +kernel
theorem dX7_count_56 : decode cX7_count 56 = .ok (.invokevirtual 126, 3) := by decide +kernel
theorem dX7_count_59 : decode cX7_count 59 = .ok (.ireturn, 1) := by decide +kernel
theorem dX7_count_60 : decode cX7_count 60 = .ok (.aload_n 0, 1) := by decide +kernel
theorem dX7_count_61 : decode cX7_count 61 = .ok (.getfield 24, 3) := by decide +kernel
theorem dX7_count_64 : decode cX7_count 64 = .ok (.invokevirtual 165, 3) := by decide +kernel
theorem dX7_count_67 : decode cX7_count 67 = .ok (.invokestatic 144, 3) := by decide +kernel
theorem dX7_count_70 : decode cX7_count 70 = .ok (.ireturn, 1) := by decide +kernel
theorem dX7_count_71 : decode cX7_count 71 = .ok (.aload_n 0, 1) := by decide +kernel
theorem dX7_count_72 : decode cX7_count 72 = .ok (.getfield 24, 3) := by decide +kernel
theorem dX7_count_75 : decode cX7_count 75 = .ok (.invokevirtual 191, 3) := by decide +kernel
theorem dX7_count_78 : decode cX7_count 78 = .ok (.ireturn, 1) := by decide +kernel
theorem dX7_count_79 : decode cX7_count 79 = .ok (.aload_n 0, 1) := by decide +kernel
theorem dX7_count_80 : decode cX7_count 80 = .ok (.getfield 24, 3) := by decide +kernel
theorem dX7_count_83 : decode cX7_count 83 = .ok (.aload_n 0, 1) := by decide +kernel
theorem dX7_count_84 : decode cX7_count 84 = .ok (.getfield 24, 3) := by decide +kernel
theorem dX7_count_87 : decode cX7_count 87 = .ok (.invokevirtual 165, 3) := by decide +kernel
theorem dX7_count_90 : decode cX7_count 90 = .ok (.invokevirtual 273, 3) := by decide +kernel
theorem dX7_count_93 : decode cX7_count 93 = .ok (.ireturn, 1) := by decide +kernel
theorem dX7_count_94 : decode cX7_count 94 = .ok (.aload_n 0, 1) := by decide +kernel
theorem dX7_count_95 : decode cX7_count 95 = .ok (.getfield 24, 3) := by decide +kernel
theorem dX7_count_98 : decode cX7_count 98 = .ok (.invokevirtual 290, 3) := by decide +kernel
theorem dX7_count_101 : decode cX7_count 101 = .ok (.invokestatic 144, 3) := by decide +kernel
theorem dX7_count_104 : decode cX7_count 104 = .ok (.ireturn, 1) := by decide +kernel
theorem dX7_count_105 : decode cX7_count 105 = .ok (.aload_n 0, 1) := by decide +kernel
theorem dX7_count_106 : decode cX7_count 106 = .ok (.getfield 24, 3) := by decide +kernel
theorem dX7_count_109 : decode cX7_count 109 = .ok (.iconst 1, 1) := by decide +kernel
theorem dX7_count_110 : decode cX7_count 110 = .ok (.invokevirtual 293, 3) := by decide +kernel
theorem dX7_count_113 : decode cX7_count 113 = .ok (.ireturn, 1) := by decide +kernel
theorem dX7_count_114 : decode cX7_count 114 = .ok (.aload_n 0, 1) := by decide +kernel
theorem dX7_count_115 : decode cX7_count 115 = .ok (.getfield 14, 3) := by decide +kernel
theorem dX7_count_118 : decode cX7_count 118 = .ok (.invokevirtual 296, 3) := by decide +kernel
theorem dX7_count_121 : decode cX7_count 121 = .ok (.ireturn, 1) := by decide +kernel
theorem dX7_count_122 : decode cX7_count 122 = .ok (.aload_n 0, 1) := by decide +kernel
theorem dX7_count_123 : decode cX7_count 123 = .ok (.getfield 18, 3) := by decide +kernel
theorem dX7_count_126 : decode cX7_count 126 = .ok (.invokevirtual 296, 3) := by decide +kernel
theorem dX7_count_129 : decode cX7_count 129 = .ok (.ireturn, 1) := by decide +kernel
theorem dX7_count_130 : decode cX7_count 130 = .ok (.aload_n 0, 1) := by decide +kernel
theorem dX7_count_131 : decode cX7_count 131 = .ok (.invokevirtual 299, 3) := by decide +kernel
theorem dX7_count_134 : decode cX7_count 134 = .ok (.ireturn, 1) := by decide +kernel
theorem dX7_count_135 : decode cX7_count 135 = .ok (.iconst (-1), 1) := by decide +kernel
theorem dX7_count_136 : decode cX7_count 136 = .ok (.ireturn, 1) := by decide +kernel
set_option maxRecDepth 20000 in
theorem ggX7_finding_X6_latest : GoodIn wsX7_finding wsX6_latest := goodIn_r _ [6, 7, 18, 19] (by decide +kernel) (by decide +kernel)
set_option maxRecDepth 20000 in
theorem gX7_finding_X6_latest : GoodIn wsX7_finding (wsV RX7 302 RX6 yX6_latest wsX6_latest) := goodIn_app (goodIn_of _ (by decide +kernel)) ggX7_finding_X6_latest
theorem dX7_finding_0 : decode cX7_finding 0 = .ok (.aload_n 0, 1) := by decide +kernel
theorem dX7_finding_1 : decode cX7_finding 1 = .ok (.getfield 59, 3) := by decide +kernel
theorem dX7_finding_4 : decode cX7_finding 4 = .ok (.invokevirtual 302, 3) := by decide +kernel
theorem dX7_finding_7 : decode cX7_finding 7 = .ok (.ireturn, 1) := by decide +kernel
set_option maxRecDepth 20000 in
theorem ggX7_findings_X6_howOften : GoodIn wsX7_findings wsX6_howOften := goodIn_r _ [6, 7, 18, 19] (by decide +kernel) (by decide +kernel)
set_option maxRecDepth 20000 in
theorem gX7_findings_X6_howOften : GoodIn wsX7_findings (wsV RX7 305 RX6 yX6_howOften wsX6_howOften) := goodIn_app (goodIn_of _ (by decide +kernel)) ggX7_findings_X6_howOften
theorem dX7_findings_0 : decode cX7_findings 0 = .ok (.iload_n 1, 1) := by decide +kernel
theorem dX7_findings_1 : decode cX7_findings 1 = .ok (.iconst 1, 1) := by decide +kernel
theorem dX7_findings_2 : decode cX7_findings 2 = .ok (.if_icmp .lt 8, 3) := by decide +kernel
theorem dX7_findings_5 : decode cX7_findings 5 = .ok (.iload_n 1, 1) := by decide +kernel
theorem dX7_findings_6 : decode cX7_findings 6 = .ok (.iconst 5, 1) := by decide +kernel
theorem dX7_findings_7 : decode cX7_findings 7 = .ok (.if_icmp .le 5, 3) := by decide +kernel
theorem dX7_findings_10 : decode cX7_findings 10 = .ok (.iconst (-1), 1) := by decide +kernel
theorem dX7_findings_11 : decode cX7_findings 11 = .ok (.ireturn, 1) := by decide +kernel
theorem dX7_findings_12 : decode cX7_findings 12 = .ok (.aload_n 0, 1) := by decide +kernel
theorem dX7_findings_13 : decode cX7_findings 13 = .ok (.getfield 59, 3) := by decide +kernel
theorem dX7_findings_16 : decode cX7_findings 16 = .ok (.iload_n 1, 1) := by decide +kernel
theorem dX7_findings_17 : decode cX7_findings 17 = .ok (.invokevirtual 305, 3) := by decide +kernel
theorem dX7_findings_20 : decode cX7_findings 20 = .ok (.ireturn, 1) := by decide +kernel
set_option maxRecDepth 20000 in
theorem ggX7_digest_X7_count : GoodIn wsX7_digest wsX7_count := goodIn_r _ [11, 3, 6, 5, 12, 13, 14, 15, 16, 17, 18, 19, 20, 21, 22, 23, 24, 25, 26, 27, 28, 29, 30, 31, 32, 33, 34, 35, 36, 37, 38, 39, 10, 40, 41, 42, 43, 44, 45, 46, 47, 48, 49, 50, 51, 52, 53, 54, 55, 56, 57, 58, 59, 60, 61, 62, 63, 64, 65, 66, 67, 68, 69, 70, 71, 72, 73, 74, 75, 76, 77, 78, 79, 80, 81, 82, 83, 84, 85, 86, 87, 88, 89, 90, 91, 92, 93, 94, 95, 96, 97, 98, 99, 4, 123, 124, 125, 126, 127, 128, 129, 130, 131, 132, 133, 134, 135, 136, 137, 138, 139, 140, 141, 142, 143, 144, 145] (by decide +kernel) (by decide +kernel)
set_option maxRecDepth 20000 in
theorem gX7_digest_X7_count : GoodIn wsX7_digest (wsV RX7 312 RX7 yX7_count wsX7_count) := goodIn_app (goodIn_of _ (by decide +kernel)) ggX7_digest_X7_count
set_option maxRecDepth 20000 in
theorem ggX7_digest_X1_howMany : GoodIn wsX7_digest wsX1_howMany := goodIn_r _ [16, 17, 133, 134, 135, 136, 137, 138, 139, 140, 141, 142] (by decide +kernel) (by decide +kernel)
set_option maxRecDepth 20000 in
theorem gX7_digest_X1_howMany : GoodIn wsX7_digest (wsV RX7 126 RX1 yX1_howMany wsX1_howMany) := goodIn_app (goodIn_of _ (by decide +kernel)) ggX7_digest_X1_howMany
set_option maxRecDepth 20000 in
theorem ggX7_digest_X1_fact : GoodIn wsX7_digest wsX1_fact := goodIn_r _ [103, 62, 49, 50, 63, 64, 73, 104, 105, 106, 15, 107, 22, 39, 10, 40, 108, 109, 110, 111, 41, 42, 43, 44, 45, 46, 47, 48, 51, 52, 53, 54, 17, 55, 56, 57, 24, 25, 26, 27, 28, 29, 58, 59, 60, 61, 133, 134, 135, 136, 137, 138, 139, 140, 141, 142] (by decide +kernel) (by decide +kernel)
set_option maxRecDepth 20000 in
theorem gX7_digest_X1_fact : GoodIn wsX7_digest (wsV RX7 131 RX1 yX1_fact wsX1_fact) := goodIn_app (goodIn_of _ (by decide +kernel)) ggX7_digest_X1_fact
set_option maxRecDepth 20000 in
theorem ggX7_digest_X1_howManyDeeds : GoodIn wsX7_digest wsX1_howManyDeeds := goodIn_r _ [33, 34, 133, 134, 135, 136, 137, 138, 139, 140, 141, 142] (by decide +kernel) (by decide +kernel)
set_option maxRecDepth 20000 in
theorem gX7_digest_X1_howManyDeeds : GoodIn wsX7_digest (wsV RX7 191 RX1 yX1_howManyDeeds wsX1_howManyDeeds) := goodIn_app (goodIn_of _ (by decide +kernel)) ggX7_digest_X1_howManyDeeds
set_option maxRecDepth 20000 in
theorem ggX7_digest_X5_digestFrom : GoodIn wsX7_digest wsX5_digestFrom := goodIn_r _ [115, 91, 116, 117, 118, 119, 89, 120, 121, 122, 143, 144, 145] (by decide +kernel) (by decide +kernel)
set_option maxRecDepth 20000 in
theorem gX7_digest_X5_digestFrom : GoodIn wsX7_digest (wsV RX7 315 RX5 yX5_digestFrom wsX5_digestFrom) := goodIn_app (goodIn_of _ (by decide +kernel)) ggX7_digest_X5_digestFrom
theorem dX7_digest_0 : decode cX7_digest 0 = .ok (.ldc2_w 308, 3) := by decide +kernel
theorem dX7_digest_3 : decode cX7_digest 3 = .ok (.lstore_n 1, 1) := by decide +kernel
theorem dX7_digest_4 : decode cX7_digest 4 = .ok (.iconst 0, 1) := by decide +kernel
theorem dX7_digest_5 : decode cX7_digest 5 = .ok (.istore_n 3, 1) := by decide +kernel
theorem dX7_digest_6 : decode cX7_digest 6 = .ok (.iload_n 3, 1) := by decide +kernel
theorem dX7_digest_7 : decode cX7_digest 7 = .ok (.bipush 9, 2) := by decide +kernel
theorem dX7_digest_9 : decode cX7_digest 9 = .ok (.if_icmp .ge 22, 3) := by decide +kernel
theorem dX7_digest_12 : decode cX7_digest 12 = .ok (.ldc2_w 310, 3) := by decide +kernel
theorem dX7_digest_15 : decode cX7_digest 15 = .ok (.lload_n 1, 1) := by decide +kernel
theorem dX7_digest_16 : decode cX7_digest 16 = .ok (.lmul, 1) := by decide +kernel
theorem dX7_digest_17 : decode cX7_digest 17 = .ok (.aload_n 0, 1) := by decide +kernel
theorem dX7_digest_18 : decode cX7_digest 18 = .ok (.iload_n 3, 1) := by decide +kernel
theorem dX7_digest_19 : decode cX7_digest 19 = .ok (.invokevirtual 312, 3) := by decide +kernel
theorem dX7_digest_22 : decode cX7_digest 22 = .ok (.i2l, 1) := by decide +kernel
theorem dX7_digest_23 : decode cX7_digest 23 = .ok (.ladd, 1) := by decide +kernel
theorem dX7_digest_24 : decode cX7_digest 24 = .ok (.lstore_n 1, 1) := by decide +kernel
theorem dX7_digest_25 : decode cX7_digest 25 = .ok (.iinc 3 1, 3) := by decide +kernel
theorem dX7_digest_28 : decode cX7_digest 28 = .ok (.goto (-22), 3) := by decide +kernel
theorem dX7_digest_31 : decode cX7_digest 31 = .ok (.iconst 0, 1) := by decide +kernel
theorem dX7_digest_32 : decode cX7_digest 32 = .ok (.istore_n 3, 1) := by decide +kernel
theorem dX7_digest_33 : decode cX7_digest 33 = .ok (.iload_n 3, 1) := by decide +kernel
theorem dX7_digest_34 : decode cX7_digest 34 = .ok (.aload_n 0, 1) := by decide +kernel
theorem dX7_digest_35 : decode cX7_digest 35 = .ok (.getfield 24, 3) := by decide +kernel
theorem dX7_digest_38 : decode cX7_digest 38 = .ok (.invokevirtual 126, 3) := by decide +kernel
theorem dX7_digest_41 : decode cX7_digest 41 = .ok (.if_icmp .ge 43, 3) := by decide +kernel
theorem dX7_digest_44 : decode cX7_digest 44 = .ok (.iconst 0, 1) := by decide +kernel
theorem dX7_digest_45 : decode cX7_digest 45 = .ok (.istore 4, 2) := by decide +kernel
theorem dX7_digest_47 : decode cX7_digest 47 = .ok (.iload 4, 2) := by decide +kernel
theorem dX7_digest_49 : decode cX7_digest 49 = .ok (.bipush 8, 2) := by decide +kernel
theorem dX7_digest_51 : decode cX7_digest 51 = .ok (.if_icmp .ge 27, 3) := by decide +kernel
theorem dX7_digest_54 : decode cX7_digest 54 = .ok (.ldc2_w 310, 3) := by decide +kernel
theorem dX7_digest_57 : decode cX7_digest 57 = .ok (.lload_n 1, 1) := by decide +kernel
theorem dX7_digest_58 : decode cX7_digest 58 = .ok (.lmul, 1) := by decide +kernel
theorem dX7_digest_59 : decode cX7_digest 59 = .ok (.aload_n 0, 1) := by decide +kernel
theorem dX7_digest_60 : decode cX7_digest 60 = .ok (.getfield 24, 3) := by decide +kernel
theorem dX7_digest_63 : decode cX7_digest 63 = .ok (.iload_n 3, 1) := by decide +kernel
theorem dX7_digest_64 : decode cX7_digest 64 = .ok (.iload 4, 2) := by decide +kernel
theorem dX7_digest_66 : decode cX7_digest 66 = .ok (.invokevirtual 131, 3) := by decide +kernel
theorem dX7_digest_69 : decode cX7_digest 69 = .ok (.i2l, 1) := by decide +kernel
theorem dX7_digest_70 : decode cX7_digest 70 = .ok (.ladd, 1) := by decide +kernel
theorem dX7_digest_71 : decode cX7_digest 71 = .ok (.lstore_n 1, 1) := by decide +kernel
theorem dX7_digest_72 : decode cX7_digest 72 = .ok (.iinc 4 1, 3) := by decide +kernel
theorem dX7_digest_75 : decode cX7_digest 75 = .ok (.goto (-28), 3) := by decide +kernel
theorem dX7_digest_78 : decode cX7_digest 78 = .ok (.iinc 3 1, 3) := by decide +kernel
theorem dX7_digest_81 : decode cX7_digest 81 = .ok (.goto (-48), 3) := by decide +kernel
theorem dX7_digest_84 : decode cX7_digest 84 = .ok (.iconst 0, 1) := by decide +kernel
theorem dX7_digest_85 : decode cX7_digest 85 = .ok (.istore_n 3, 1) := by decide +kernel
theorem dX7_digest_86 : decode cX7_digest 86 = .ok (.iload_n 3, 1) := by decide +kernel
theorem dX7_digest_87 : decode cX7_digest 87 = .ok (.iconst 3, 1) := by decide +kernel
theorem dX7_digest_88 : decode cX7_digest 88 = .ok (.if_icmp .ge 39, 3) := by decide +kernel
theorem dX7_digest_91 : decode cX7_digest 91 = .ok (.aload_n 0, 1) := by decide +kernel
theorem dX7_digest_92 : decode cX7_digest 92 = .ok (.getfield 31, 3) := by decide +kernel
theorem dX7_digest_95 : decode cX7_digest 95 = .ok (.iload_n 3, 1) := by decide +kernel
theorem dX7_digest_96 : decode cX7_digest 96 = .ok (.aaload, 1) := by decide +kernel
theorem dX7_digest_97 : decode cX7_digest 97 = .ok (.astore 4, 2) := by decide +kernel
theorem dX7_digest_99 : decode cX7_digest 99 = .ok (.ldc2_w 310, 3) := by decide +kernel
theorem dX7_digest_102 : decode cX7_digest 102 = .ok (.lload_n 1, 1) := by decide +kernel
theorem dX7_digest_103 : decode cX7_digest 103 = .ok (.lmul, 1) := by decide +kernel
theorem dX7_digest_104 : decode cX7_digest 104 = .ok (.aload 4, 2) := by decide +kernel
theorem dX7_digest_106 : decode cX7_digest 106 = .ok (.ifnonnull 7, 3) := by decide +kernel
theorem dX7_digest_109 : decode cX7_digest 109 = .ok (.iconst (-1), 1) := by decide +kernel
theorem dX7_digest_110 : decode cX7_digest 110 = .ok (.goto 8, 3) := by decide +kernel
theorem dX7_digest_113 : decode cX7_digest 113 = .ok (.aload 4, 2) := by decide +kernel
theorem dX7_digest_115 : decode cX7_digest 115 = .ok (.invokevirtual 191, 3) := by decide +kernel
theorem dX7_digest_118 : decode cX7_digest 118 = .ok (.i2l, 1) := by decide +kernel
theorem dX7_digest_119 : decode cX7_digest 119 = .ok (.ladd, 1) := by decide +kernel
theorem dX7_digest_120 : decode cX7_digest 120 = .ok (.lstore_n 1, 1) := by decide +kernel
theorem dX7_digest_121 : decode cX7_digest 121 = .ok (.iinc 3 1, 3) := by decide +kernel
theorem dX7_digest_124 : decode cX7_digest 124 = .ok (.goto (-38), 3) := by decide +kernel
theorem dX7_digest_127 : decode cX7_digest 127 = .ok (.aload_n 0, 1) := by decide +kernel
theorem dX7_digest_128 : decode cX7_digest 128 = .ok (.getfield 18, 3) := by decide +kernel
theorem dX7_digest_131 : decode cX7_digest 131 = .ok (.aload_n 0, 1) := by decide +kernel
theorem dX7_digest_132 : decode cX7_digest 132 = .ok (.getfield 14, 3) := by decide +kernel
theorem dX7_digest_135 : decode cX7_digest 135 = .ok (.lload_n 1, 1) := by decide +kernel
theorem dX7_digest_136 : decode cX7_digest 136 = .ok (.invokevirtual 315, 3) := by decide +kernel
theorem dX7_digest_139 : decode cX7_digest 139 = .ok (.invokevirtual 315, 3) := by decide +kernel
theorem dX7_digest_142 : decode cX7_digest 142 = .ok (.lreturn, 1) := by decide +kernel
set_option maxRecDepth 20000 in
theorem ggX7_refusalOfShelf_X5_hasNumber : GoodIn wsX7_refusalOfShelf wsX5_hasNumber := goodIn_r _ [6, 7, 29, 30, 31] (by decide +kernel) (by decide +kernel)
set_option maxRecDepth 20000 in
theorem gX7_refusalOfShelf_X5_hasNumber : GoodIn wsX7_refusalOfShelf (wsV RX7 67 RX5 yX5_hasNumber wsX5_hasNumber) := goodIn_app (goodIn_of _ (by decide +kernel)) ggX7_refusalOfShelf_X5_hasNumber
set_option maxRecDepth 20000 in
theorem ggX7_refusalOfShelf_X5_isThere : GoodIn wsX7_refusalOfShelf wsX5_isThere := goodIn_r _ [11, 7, 29, 30, 31] (by decide +kernel) (by decide +kernel)
set_option maxRecDepth 20000 in
theorem gX7_refusalOfShelf_X5_isThere : GoodIn wsX7_refusalOfShelf (wsV RX7 98 RX5 yX5_isThere wsX5_isThere) := goodIn_app (goodIn_of _ (by decide +kernel)) ggX7_refusalOfShelf_X5_isThere
set_option maxRecDepth 20000 in
theorem ggX7_refusalOfShelf_X6_note : GoodIn wsX7_refusalOfShelf wsX6_note := goodIn_r _ [16, 17, 18, 32, 33] (by decide +kernel) (by decide +kernel)
set_option maxRecDepth 20000 in
theorem gX7_refusalOfShelf_X6_note : GoodIn wsX7_refusalOfShelf (wsV RX7 71 RX6 yX6_note wsX6_note) := goodIn_app (goodIn_of _ (by decide +kernel)) ggX7_refusalOfShelf_X6_note
theorem dX7_refusalOfShelf_0 : decode cX7_refusalOfShelf 0 = .ok (.aload_n 1, 1) := by decide +kernel
theorem dX7_refusalOfShelf_1 : decode cX7_refusalOfShelf 1 = .ok (.iload_n 2, 1) := by decide +kernel
theorem dX7_refusalOfShelf_2 : decode cX7_refusalOfShelf 2 = .ok (.invokevirtual 67, 3) := by decide +kernel
theorem dX7_refusalOfShelf_5 : decode cX7_refusalOfShelf 5 = .ok (.ifCond .ne 5, 3) := by decide +kernel
theorem dX7_refusalOfShelf_8 : decode cX7_refusalOfShelf 8 = .ok (.iconst (-1), 1) := by decide +kernel
theorem dX7_refusalOfShelf_9 : decode cX7_refusalOfShelf 9 = .ok (.ireturn, 1) := by decide +kernel
theorem dX7_refusalOfShelf_10 : decode cX7_refusalOfShelf 10 = .ok (.aload_n 1, 1) := by decide +kernel
theorem dX7_refusalOfShelf_11 : decode cX7_refusalOfShelf 11 = .ok (.iload_n 2, 1) := by decide +kernel
theorem dX7_refusalOfShelf_12 : decode cX7_refusalOfShelf 12 = .ok (.invokevirtual 98, 3) := by decide +kernel
theorem dX7_refusalOfShelf_15 : decode cX7_refusalOfShelf 15 = .ok (.ifCond .eq 7, 3) := by decide +kernel
theorem dX7_refusalOfShelf_18 : decode cX7_refusalOfShelf 18 = .ok (.iconst 0, 1) := by decide +kernel
theorem dX7_refusalOfShelf_19 : decode cX7_refusalOfShelf 19 = .ok (.goto 11, 3) := by decide +kernel
theorem dX7_refusalOfShelf_22 : decode cX7_refusalOfShelf 22 = .ok (.aload_n 0, 1) := by decide +kernel
theorem dX7_refusalOfShelf_23 : decode cX7_refusalOfShelf 23 = .ok (.getfield 59, 3) := by decide +kernel
theorem dX7_refusalOfShelf_26 : decode cX7_refusalOfShelf 26 = .ok (.iconst 1, 1) := by decide +kernel
theorem dX7_refusalOfShelf_27 : decode cX7_refusalOfShelf 27 = .ok (.invokevirtual 71, 3) := by decide +kernel
theorem dX7_refusalOfShelf_30 : decode cX7_refusalOfShelf 30 = .ok (.ireturn, 1) := by decide +kernel
set_option maxRecDepth 20000 in
theorem ggX7_refusalOfPlace_X7_refusalOfShelf : GoodIn wsX7_refusalOfPlace wsX7_refusalOfShelf := goodIn_r _ [6, 1, 7, 8, 9, 10, 11, 12, 13, 14, 15, 16, 17, 18, 19, 20, 21, 22, 23, 28, 29, 30, 31, 32, 33, 34, 35, 36, 37, 38, 39, 40, 41, 42] (by decide +kernel) (by decide +kernel)
set_option maxRecDepth 20000 in
theorem gX7_refusalOfPlace_X7_refusalOfShelf : GoodIn wsX7_refusalOfPlace (wsV RX7 90 RX7 yX7_refusalOfShelf wsX7_refusalOfShelf) := goodIn_app (goodIn_of _ (by decide +kernel)) ggX7_refusalOfPlace_X7_refusalOfShelf
set_option maxRecDepth 20000 in
theorem ggX7_refusalOfPlace_X5_hasPlace : GoodIn wsX7_refusalOfPlace wsX5_hasPlace := goodIn_r _ [27, 12, 38, 39, 40] (by decide +kernel) (by decide +kernel)
set_option maxRecDepth 20000 in
theorem gX7_refusalOfPlace_X5_hasPlace : GoodIn wsX7_refusalOfPlace (wsV RX7 319 RX5 yX5_hasPlace wsX5_hasPlace) := goodIn_app (goodIn_of _ (by decide +kernel)) ggX7_refusalOfPlace_X5_hasPlace
set_option maxRecDepth 20000 in
theorem ggX7_refusalOfPlace_X6_note : GoodIn wsX7_refusalOfPlace wsX6_note := goodIn_r _ [21, 22, 23, 41, 42] (by decide +kernel) (by decide +kernel)
set_option maxRecDepth 20000 in
theorem gX7_refusalOfPlace_X6_note : GoodIn wsX7_refusalOfPlace (wsV RX7 71 RX6 yX6_note wsX6_note) := goodIn_app (goodIn_of _ (by decide +kernel)) ggX7_refusalOfPlace_X6_note
theorem dX7_refusalOfPlace_0 : decode cX7_refusalOfPlace 0 = .ok (.aload_n 0, 1) := by decide +kernel
theorem dX7_refusalOfPlace_1 : decode cX7_refusalOfPlace 1 = .ok (.aload_n 1, 1) := by decide +kernel
theorem dX7_refusalOfPlace_2 : decode cX7_refusalOfPlace 2 = .ok (.iload_n 2, 1) := by decide +kernel
theorem dX7_refusalOfPlace_3 : decode cX7_refusalOfPlace 3 = .ok (.invokevirtual 90, 3) := by decide +kernel
theorem dX7_refusalOfPlace_6 : decode cX7_refusalOfPlace 6 = .ok (.istore 4, 2) := by decide +kernel
theorem dX7_refusalOfPlace_8 : decode cX7_refusalOfPlace 8 = .ok (.iload 4, 2) := by decide +kernel
theorem dX7_refusalOfPlace_10 : decode cX7_refusalOfPlace 10 = .ok (.ifCond .eq 6, 3) := by decide +kernel
theorem dX7_refusalOfPlace_13 : decode cX7_refusalOfPlace 13 = .ok (.iload 4, 2) := by decide +kernel
theorem dX7_refusalOfPlace_15 : decode cX7_refusalOfPlace 15 = .ok (.ireturn, 1) := by decide +kernel
theorem dX7_refusalOfPlace_16 : decode cX7_refusalOfPlace 16 = .ok (.aload_n 1, 1) := by decide +kernel
theorem dX7_refusalOfPlace_17 : decode cX7_refusalOfPlace 17 = .ok (.iload_n 2, 1) := by decide +kernel
theorem dX7_refusalOfPlace_18 : decode cX7_refusalOfPlace 18 = .ok (.iload_n 3, 1) := by decide +kernel
theorem dX7_refusalOfPlace_19 : decode cX7_refusalOfPlace 19 = .ok (.invokevirtual 319, 3) := by decide +kernel
theorem dX7_refusalOfPlace_22 : decode cX7_refusalOfPlace 22 = .ok (.ifCond .eq 7, 3) := by decide +kernel
theorem dX7_refusalOfPlace_25 : decode cX7_refusalOfPlace 25 = .ok (.iconst 0, 1) := by decide +kernel
theorem dX7_refusalOfPlace_26 : decode cX7_refusalOfPlace 26 = .ok (.goto 11, 3) := by decide +kernel
theorem dX7_refusalOfPlace_29 : decode cX7_refusalOfPlace 29 = .ok (.aload_n 0, 1) := by decide +kernel
theorem dX7_refusalOfPlace_30 : decode cX7_refusalOfPlace 30 = .ok (.getfield 59, 3) := by decide +kernel
theorem dX7_refusalOfPlace_33 : decode cX7_refusalOfPlace 33 = .ok (.iconst 2, 1) := by decide +kernel
theorem dX7_refusalOfPlace_34 : decode cX7_refusalOfPlace 34 = .ok (.invokevirtual 71, 3) := by decide +kernel
theorem dX7_refusalOfPlace_37 : decode cX7_refusalOfPlace 37 = .ok (.ireturn, 1) := by decide +kernel
theorem dX7_howManyKept_0 : decode cX7_howManyKept 0 = .ok (.iconst 0, 1) := by decide +kernel
theorem dX7_howManyKept_1 : decode cX7_howManyKept 1 = .ok (.istore_n 1, 1) := by decide +kernel
theorem dX7_howManyKept_2 : decode cX7_howManyKept 2 = .ok (.iconst 0, 1) := by decide +kernel
theorem dX7_howManyKept_3 : decode cX7_howManyKept 3 = .ok (.istore_n 2, 1) := by decide +kernel
theorem dX7_howManyKept_4 : decode cX7_howManyKept 4 = .ok (.iload_n 2, 1) := by decide +kernel
theorem dX7_howManyKept_5 : decode cX7_howManyKept 5 = .ok (.iconst 3, 1) := by decide +kernel
theorem dX7_howManyKept_6 : decode cX7_howManyKept 6 = .ok (.if_icmp .ge 21, 3) := by decide +kernel
theorem dX7_howManyKept_9 : decode cX7_howManyKept 9 = .ok (.aload_n 0, 1) := by decide +kernel
theorem dX7_howManyKept_10 : decode cX7_howManyKept 10 = .ok (.getfield 31, 3) := by decide +kernel
theorem dX7_howManyKept_13 : decode cX7_howManyKept 13 = .ok (.iload_n 2, 1) := by decide +kernel
theorem dX7_howManyKept_14 : decode cX7_howManyKept 14 = .ok (.aaload, 1) := by decide +kernel
theorem dX7_howManyKept_15 : decode cX7_howManyKept 15 = .ok (.ifnull 6, 3) := by decide +kernel
theorem dX7_howManyKept_18 : decode cX7_howManyKept 18 = .ok (.iinc 1 1, 3) := by decide +kernel
theorem dX7_howManyKept_21 : decode cX7_howManyKept 21 = .ok (.iinc 2 1, 3) := by decide +kernel
theorem dX7_howManyKept_24 : decode cX7_howManyKept 24 = .ok (.goto (-20), 3) := by decide +kernel
theorem dX7_howManyKept_27 : decode cX7_howManyKept 27 = .ok (.iload_n 1, 1) := by decide +kernel
theorem dX7_howManyKept_28 : decode cX7_howManyKept 28 = .ok (.ireturn, 1) := by decide +kernel

