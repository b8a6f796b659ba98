theorem dX0_init_0 : decode cX0_init 0 = .ok (.aload_n 0, 1) := by decide +kernel
theorem dX0_init_1 : decode cX0_init 1 = .ok (.invokespecial 3, 3) := by decide +kernel
theorem dX0_init_4 : decode cX0_init 4 = .ok (.aload_n 0, 1) := by decide +kernel
theorem dX0_init_5 : decode cX0_init 5 = .ok (.bipush 6, 2) := by decide +kernel
theorem dX0_init_7 : decode cX0_init 7 = .ok (.newarray .int, 2) := by decide +kernel
theorem dX0_init_9 : decode cX0_init 9 = .ok (.putfield 9, 3) := by decide +kernel
theorem dX0_init_12 : decode cX0_init 12 = .ok (.return_, 1) := by decide +kernel
theorem dX0_hasNumber_0 : decode cX0_hasNumber 0 = .ok (.iload_n 1, 1) := by decide +kernel
theorem dX0_hasNumber_1 : decode cX0_hasNumber 1 = .ok (.ifCond .lt 13, 3) := by decide +kernel
theorem dX0_hasNumber_4 : decode cX0_hasNumber 4 = .ok (.iload_n 1, 1) := by decide +kernel
theorem dX0_hasNumber_5 : decode cX0_hasNumber 5 = .ok (.bipush 6, 2) := by decide +kernel
theorem dX0_hasNumber_7 : decode cX0_hasNumber 7 = .ok (.if_icmp .ge 7, 3) := by decide +kernel
theorem dX0_hasNumber_10 : decode cX0_hasNumber 10 = .ok (.iconst 1, 1) := by decide +kernel
theorem dX0_hasNumber_11 : decode cX0_hasNumber 11 = .ok (.goto 4, 3) := by decide +kernel
theorem dX0_hasNumber_14 : decode cX0_hasNumber 14 = .ok (.iconst 0, 1) := by decide +kernel
theorem dX0_hasNumber_15 : decode cX0_hasNumber 15 = .ok (.ireturn, 1) := by decide +kernel
set_option maxRecDepth 20000 in
theorem ggX0_suspects_X1_answeredBy : GoodIn wsX0_suspects wsX1_answeredBy := goodIn_r _ [5, 6, 29, 30, 31, 32, 33, 34, 35, 36, 37, 38] (by decide +kernel) (by decide +kernel)
set_option maxRecDepth 20000 in
theorem gX0_suspects_X1_answeredBy : GoodIn wsX0_suspects (wsV RX0 15 RX1 yX1_answeredBy wsX1_answeredBy) := goodIn_app (goodIn_of _ (by decide +kernel)) ggX0_suspects_X1_answeredBy
set_option maxRecDepth 20000 in
theorem ggX0_suspects_X1_hasNumber : GoodIn wsX0_suspects wsX1_hasNumber := goodIn_r _ [10, 11, 29, 30, 31, 32, 33, 34, 35, 36, 37, 38] (by decide +kernel) (by decide +kernel)
set_option maxRecDepth 20000 in
theorem gX0_suspects_X1_hasNumber : GoodIn wsX0_suspects (wsV RX0 21 RX1 yX1_hasNumber wsX1_hasNumber) := goodIn_app (goodIn_of _ (by decide +kernel)) ggX0_suspects_X1_hasNumber
set_option maxRecDepth 20000 in
theorem ggX0_suspects_X1_toldAhead : GoodIn wsX0_suspects wsX1_toldAhead := goodIn_r _ [15, 16, 17, 18, 19, 29, 30, 31, 32, 33, 34, 35, 36, 37, 38] (by decide +kernel) (by decide +kernel)
set_option maxRecDepth 20000 in
theorem gX0_suspects_X1_toldAhead : GoodIn wsX0_suspects (wsV RX0 25 RX1 yX1_toldAhead wsX1_toldAhead) := goodIn_app (goodIn_of _ (by decide +kernel)) ggX0_suspects_X1_toldAhead
set_option maxRecDepth 20000 in
theorem ggX0_suspects_X1_whoOf : GoodIn wsX0_suspects wsX1_whoOf := goodIn_r _ [23, 24, 29, 30, 31, 32, 33, 34, 35, 36, 37, 38] (by decide +kernel) (by decide +kernel)
set_option maxRecDepth 20000 in
theorem gX0_suspects_X1_whoOf : GoodIn wsX0_suspects (wsV RX0 28 RX1 yX1_whoOf wsX1_whoOf) := goodIn_app (goodIn_of _ (by decide +kernel)) ggX0_suspects_X1_whoOf
set_option maxRecDepth 20000 in
theorem ggX0_suspects_X7_bit : GoodIn wsX0_suspects wsX7_bit := goodIn_r _ [19] (by decide +kernel) (by decide +kernel)
set_option maxRecDepth 20000 in
theorem gX0_suspects_X7_bit_n31 : GoodIn wsX0_suspects (wsX7_bit) := ggX0_suspects_X7_bit
set_option maxRecDepth 20000 in
theorem ggX0_suspects_X1_toWhomOf : GoodIn wsX0_suspects wsX1_toWhomOf := goodIn_r _ [28, 16, 29, 30, 31, 32, 33, 34, 35, 36, 37, 38] (by decide +kernel) (by decide +kernel)
set_option maxRecDepth 20000 in
theorem gX0_suspects_X1_toWhomOf : GoodIn wsX0_suspects (wsV RX0 34 RX1 yX1_toWhomOf wsX1_toWhomOf) := goodIn_app (goodIn_of _ (by decide +kernel)) ggX0_suspects_X1_toWhomOf
theorem dX0_suspects_0 : decode cX0_suspects 0 = .ok (.bipush 63, 2) := by decide +kernel
theorem dX0_suspects_2 : decode cX0_suspects 2 = .ok (.istore_n 3, 1) := by decide +kernel
theorem dX0_suspects_3 : decode cX0_suspects 3 = .ok (.aload_n 1, 1) := by decide +kernel
theorem dX0_suspects_4 : decode cX0_suspects 4 = .ok (.iload_n 2, 1) := by decide +kernel
theorem dX0_suspects_5 : decode cX0_suspects 5 = .ok (.invokevirtual 15, 3) := by decide +kernel
theorem dX0_suspects_8 : decode cX0_suspects 8 = .ok (.istore 4, 2) := by decide +kernel
theorem dX0_suspects_10 : decode cX0_suspects 10 = .ok (.aload_n 1, 1) := by decide +kernel
theorem dX0_suspects_11 : decode cX0_suspects 11 = .ok (.iload 4, 2) := by decide +kernel
theorem dX0_suspects_13 : decode cX0_suspects 13 = .ok (.invokevirtual 21, 3) := by decide +kernel
theorem dX0_suspects_16 : decode cX0_suspects 16 = .ok (.ifCond .eq 21, 3) := by decide +kernel
theorem dX0_suspects_19 : decode cX0_suspects 19 = .ok (.aload_n 1, 1) := by decide +kernel
theorem dX0_suspects_20 : decode cX0_suspects 20 = .ok (.iload_n 2, 1) := by decide +kernel
theorem dX0_suspects_21 : decode cX0_suspects 21 = .ok (.invokevirtual 25, 3) := by decide +kernel
theorem dX0_suspects_24 : decode cX0_suspects 24 = .ok (.aload_n 1, 1) := by decide +kernel
theorem dX0_suspects_25 : decode cX0_suspects 25 = .ok (.iload 4, 2) := by decide +kernel
theorem dX0_suspects_27 : decode cX0_suspects 27 = .ok (.invokevirtual 28, 3) := by decide +kernel
theorem dX0_suspects_30 : decode cX0_suspects 30 = .ok (.invokestatic 31, 3) := by decide +kernel
theorem dX0_suspects_33 : decode cX0_suspects 33 = .ok (.iconst (-1), 1) := by decide +kernel
theorem dX0_suspects_34 : decode cX0_suspects 34 = .ok (.ixor, 1) := by decide +kernel
theorem dX0_suspects_35 : decode cX0_suspects 35 = .ok (.iand, 1) := by decide +kernel
theorem dX0_suspects_36 : decode cX0_suspects 36 = .ok (.istore_n 3, 1) := by decide +kernel
theorem dX0_suspects_37 : decode cX0_suspects 37 = .ok (.iload_n 3, 1) := by decide +kernel
theorem dX0_suspects_38 : decode cX0_suspects 38 = .ok (.aload_n 1, 1) := by decide +kernel
theorem dX0_suspects_39 : decode cX0_suspects 39 = .ok (.iload_n 2, 1) := by decide +kernel
theorem dX0_suspects_40 : decode cX0_suspects 40 = .ok (.invokevirtual 34, 3) := by decide +kernel
theorem dX0_suspects_43 : decode cX0_suspects 43 = .ok (.invokestatic 31, 3) := by decide +kernel
theorem dX0_suspects_46 : decode cX0_suspects 46 = .ok (.iconst (-1), 1) := by decide +kernel
theorem dX0_suspects_47 : decode cX0_suspects 47 = .ok (.ixor, 1) := by decide +kernel
theorem dX0_suspects_48 : decode cX0_suspects 48 = .ok (.iand, 1) := by decide +kernel
theorem dX0_suspects_49 : decode cX0_suspects 49 = .ok (.ireturn, 1) := by decide +kernel
set_option maxRecDepth 20000 in
theorem ggX0_inRings_X0_listen : GoodIn wsX0_inRings wsX0_listen := goodIn_r _ [6, 1, 7, 8, 9, 10, 11, 12, 13, 14, 15, 16, 17, 18, 19, 20, 21, 22, 23, 24, 25, 26, 27, 28, 29, 30, 31, 32, 33, 34, 35, 36, 37, 38, 39, 40, 41, 42, 43, 44, 45, 46, 47] (by decide +kernel) (by decide +kernel)
set_option maxRecDepth 20000 in
theorem gX0_inRings_X0_listen : GoodIn wsX0_inRings (wsV RX0 37 RX0 yX0_listen wsX0_listen) := goodIn_app (goodIn_of _ (by decide +kernel)) ggX0_inRings_X0_listen
set_option maxRecDepth 20000 in
theorem ggX0_inRings_X7_hasBit : GoodIn wsX0_inRings wsX7_hasBit := goodIn_r _ [34] (by decide +kernel) (by decide +kernel)
set_option maxRecDepth 20000 in
theorem gX0_inRings_X7_hasBit_n41 : GoodIn wsX0_inRings (wsX7_hasBit) := ggX0_inRings_X7_hasBit
set_option maxRecDepth 20000 in
theorem ggX0_inRings_X7_bit : GoodIn wsX0_inRings wsX7_bit := goodIn_r _ [36] (by decide +kernel) (by decide +kernel)
set_option maxRecDepth 20000 in
theorem gX0_inRings_X7_bit_n31 : GoodIn wsX0_inRings (wsX7_bit) := ggX0_inRings_X7_bit
theorem dX0_inRings_0 : decode cX0_inRings 0 = .ok (.aload_n 0, 1) := by decide +kernel
theorem dX0_inRings_1 : decode cX0_inRings 1 = .ok (.aload_n 1, 1) := by decide +kernel
theorem dX0_inRings_2 : decode cX0_inRings 2 = .ok (.iload_n 2, 1) := by decide +kernel
theorem dX0_inRings_3 : decode cX0_inRings 3 = .ok (.invokevirtual 37, 3) := by decide +kernel
theorem dX0_inRings_6 : decode cX0_inRings 6 = .ok (.iconst 0, 1) := by decide +kernel
theorem dX0_inRings_7 : decode cX0_inRings 7 = .ok (.istore_n 3, 1) := by decide +kernel
theorem dX0_inRings_8 : decode cX0_inRings 8 = .ok (.iload_n 3, 1) := by decide +kernel
theorem dX0_inRings_9 : decode cX0_inRings 9 = .ok (.bipush 6, 2) := by decide +kernel
theorem dX0_inRings_11 : decode cX0_inRings 11 = .ok (.if_icmp .ge 55, 3) := by decide +kernel
theorem dX0_inRings_14 : decode cX0_inRings 14 = .ok (.iconst 0, 1) := by decide +kernel
theorem dX0_inRings_15 : decode cX0_inRings 15 = .ok (.istore 4, 2) := by decide +kernel
theorem dX0_inRings_17 : decode cX0_inRings 17 = .ok (.iload 4, 2) := by decide +kernel
theorem dX0_inRings_19 : decode cX0_inRings 19 = .ok (.bipush 6, 2) := by decide +kernel
theorem dX0_inRings_21 : decode cX0_inRings 21 = .ok (.if_icmp .ge 39, 3) := by decide +kernel
theorem dX0_inRings_24 : decode cX0_inRings 24 = .ok (.aload_n 0, 1) := by decide +kernel
theorem dX0_inRings_25 : decode cX0_inRings 25 = .ok (.getfield 9, 3) := by decide +kernel
theorem dX0_inRings_28 : decode cX0_inRings 28 = .ok (.iload 4, 2) := by decide +kernel
theorem dX0_inRings_30 : decode cX0_inRings 30 = .ok (.iaload, 1) := by decide +kernel
theorem dX0_inRings_31 : decode cX0_inRings 31 = .ok (.iload_n 3, 1) := by decide +kernel
theorem dX0_inRings_32 : decode cX0_inRings 32 = .ok (.invokestatic 41, 3) := by decide +kernel
theorem dX0_inRings_35 : decode cX0_inRings 35 = .ok (.ifCond .eq 19, 3) := by decide +kernel
theorem dX0_inRings_38 : decode cX0_inRings 38 = .ok (.aload_n 0, 1) := by decide +kernel
theorem dX0_inRings_39 : decode cX0_inRings 39 = .ok (.getfield 9, 3) := by decide +kernel
theorem dX0_inRings_42 : decode cX0_inRings 42 = .ok (.iload 4, 2) := by decide +kernel
theorem dX0_inRings_44 : decode cX0_inRings 44 = .ok (.dup2, 1) := by decide +kernel
theorem dX0_inRings_45 : decode cX0_inRings 45 = .ok (.iaload, 1) := by decide +kernel
theorem dX0_inRings_46 : decode cX0_inRings 46 = .ok (.aload_n 0, 1) := by decide +kernel
theorem dX0_inRings_47 : decode cX0_inRings 47 = .ok (.getfield 9, 3) := by decide +kernel
theorem dX0_inRings_50 : decode cX0_inRings 50 = .ok (.iload_n 3, 1) := by decide +kernel
theorem dX0_inRings_51 : decode cX0_inRings 51 = .ok (.iaload, 1) := by decide +kernel
theorem dX0_inRings_52 : decode cX0_inRings 52 = .ok (.ior, 1) := by decide +kernel
theorem dX0_inRings_53 : decode cX0_inRings 53 = .ok (.iastore, 1) := by decide +kernel
theorem dX0_inRings_54 : decode cX0_inRings 54 = .ok (.iinc 4 1, 3) := by decide +kernel
theorem dX0_inRings_57 : decode cX0_inRings 57 = .ok (.goto (-40), 3) := by decide +kernel
theorem dX0_inRings_60 : decode cX0_inRings 60 = .ok (.iinc 3 1, 3) := by decide +kernel
theorem dX0_inRings_63 : decode cX0_inRings 63 = .ok (.goto (-55), 3) := by decide +kernel
theorem dX0_inRings_66 : decode cX0_inRings 66 = .ok (.iconst 0, 1) := by decide +kernel
theorem dX0_inRings_67 : decode cX0_inRings 67 = .ok (.istore_n 3, 1) := by decide +kernel
theorem dX0_inRings_68 : decode cX0_inRings 68 = .ok (.iconst 0, 1) := by decide +kernel
theorem dX0_inRings_69 : decode cX0_inRings 69 = .ok (.istore 4, 2) := by decide +kernel
theorem dX0_inRings_71 : decode cX0_inRings 71 = .ok (.iload 4, 2) := by decide +kernel
theorem dX0_inRings_73 : decode cX0_inRings 73 = .ok (.bipush 6, 2) := by decide +kernel
theorem dX0_inRings_75 : decode cX0_inRings 75 = .ok (.if_icmp .ge 32, 3) := by decide +kernel
theorem dX0_inRings_78 : decode cX0_inRings 78 = .ok (.aload_n 0, 1) := by decide +kernel
theorem dX0_inRings_79 : decode cX0_inRings 79 = .ok (.getfield 9, 3) := by decide +kernel
theorem dX0_inRings_82 : decode cX0_inRings 82 = .ok (.iload 4, 2) := by decide +kernel
theorem dX0_inRings_84 : decode cX0_inRings 84 = .ok (.iaload, 1) := by decide +kernel
theorem dX0_inRings_85 : decode cX0_inRings 85 = .ok (.iload 4, 2) := by decide +kernel
theorem dX0_inRings_87 : decode cX0_inRings 87 = .ok (.invokestatic 41, 3) := by decide +kernel
theorem dX0_inRings_90 : decode cX0_inRings 90 = .ok (.ifCond .eq 11, 3) := by decide +kernel
theorem dX0_inRings_93 : decode cX0_inRings 93 = .ok (.iload_n 3, 1) := by decide +kernel
theorem dX0_inRings_94 : decode cX0_inRings 94 = .ok (.iload 4, 2) := by decide +kernel
theorem dX0_inRings_96 : decode cX0_inRings 96 = .ok (.invokestatic 31, 3) := by decide +kernel
theorem dX0_inRings_99 : decode cX0_inRings 99 = .ok (.ior, 1) := by decide +kernel
theorem dX0_inRings_100 : decode cX0_inRings 100 = .ok (.istore_n 3, 1) := by decide +kernel
theorem dX0_inRings_101 : decode cX0_inRings 101 = .ok (.iinc 4 1, 3) := by decide +kernel
theorem dX0_inRings_104 : decode cX0_inRings 104 = .ok (.goto (-33), 3) := by decide +kernel
theorem dX0_inRings_107 : decode cX0_inRings 107 = .ok (.iload_n 3, 1) := by decide +kernel
theorem dX0_inRings_108 : decode cX0_inRings 108 = .ok (.ireturn, 1) := by decide +kernel
set_option maxRecDepth 20000 in
theorem ggX0_listen_J7_fill_53178 : GoodIn wsX0_listen wsJ7_fill_53178 := goodIn_r _ [5] (by decide +kernel) (by decide +kernel)
set_option maxRecDepth 20000 in
theorem gX0_listen_J7_fill_53178 : GoodIn wsX0_listen (va_wsS RX0 45 yJ7_fill_53178 wsJ7_fill_53178) := goodIn_app (goodIn_of _ (by decide +kernel)) ggX0_listen_J7_fill_53178
set_option maxRecDepth 20000 in
theorem ggX0_listen_X1_howMany : GoodIn wsX0_listen wsX1_howMany := goodIn_r _ [10, 11, 33, 34, 35, 36, 37, 38, 39, 40, 41, 42] (by decide +kernel) (by decide +kernel)
set_option maxRecDepth 20000 in
theorem gX0_listen_X1_howMany : GoodIn wsX0_listen (wsV RX0 51 RX1 yX1_howMany wsX1_howMany) := goodIn_app (goodIn_of _ (by decide +kernel)) ggX0_listen_X1_howMany
set_option maxRecDepth 20000 in
theorem ggX0_listen_X1_whoOf : GoodIn wsX0_listen wsX1_whoOf := goodIn_r _ [15, 16, 33, 34, 35, 36, 37, 38, 39, 40, 41, 42] (by decide +kernel) (by decide +kernel)
set_option maxRecDepth 20000 in
theorem gX0_listen_X1_whoOf : GoodIn wsX0_listen (wsV RX0 28 RX1 yX1_whoOf wsX1_whoOf) := goodIn_app (goodIn_of _ (by decide +kernel)) ggX0_listen_X1_whoOf
set_option maxRecDepth 20000 in
theorem ggX0_listen_X1_toWhomOf : GoodIn wsX0_listen wsX1_toWhomOf := goodIn_r _ [20, 21, 33, 34, 35, 36, 37, 38, 39, 40, 41, 42] (by decide +kernel) (by decide +kernel)
set_option maxRecDepth 20000 in
theorem gX0_listen_X1_toWhomOf : GoodIn wsX0_listen (wsV RX0 34 RX1 yX1_toWhomOf wsX1_toWhomOf) := goodIn_app (goodIn_of _ (by decide +kernel)) ggX0_listen_X1_toWhomOf
set_option maxRecDepth 20000 in
theorem ggX0_listen_X1_isSaid : GoodIn wsX0_listen wsX1_isSaid := goodIn_r _ [25, 26, 27, 28, 29, 33, 34, 35, 36, 37, 38, 39, 40, 41, 42] (by decide +kernel) (by decide +kernel)
set_option maxRecDepth 20000 in
theorem gX0_listen_X1_isSaid : GoodIn wsX0_listen (wsV RX0 55 RX1 yX1_isSaid wsX1_isSaid) := goodIn_app (goodIn_of _ (by decide +kernel)) ggX0_listen_X1_isSaid
set_option maxRecDepth 20000 in
theorem ggX0_listen_X7_hasBit : GoodIn wsX0_listen wsX7_hasBit := goodIn_r _ [29] (by decide +kernel) (by decide +kernel)
set_option maxRecDepth 20000 in
theorem gX0_listen_X7_hasBit_n41 : GoodIn wsX0_listen (wsX7_hasBit) := ggX0_listen_X7_hasBit
set_option maxRecDepth 20000 in
theorem ggX0_listen_X7_bit : GoodIn wsX0_listen wsX7_bit := goodIn_r _ [31] (by decide +kernel) (by decide +kernel)
set_option maxRecDepth 20000 in
theorem gX0_listen_X7_bit_n31 : GoodIn wsX0_listen (wsX7_bit) := ggX0_listen_X7_bit
theorem dX0_listen_0 : decode cX0_listen 0 = .ok (.aload_n 0, 1) := by decide +kernel
theorem dX0_listen_1 : decode cX0_listen 1 = .ok (.getfield 9, 3) := by decide +kernel
theorem dX0_listen_4 : decode cX0_listen 4 = .ok (.iconst 0, 1) := by decide +kernel
theorem dX0_listen_5 : decode cX0_listen 5 = .ok (.invokestatic 45, 3) := by decide +kernel
theorem dX0_listen_8 : decode cX0_listen 8 = .ok (.iconst 0, 1) := by decide +kernel
theorem dX0_listen_9 : decode cX0_listen 9 = .ok (.istore_n 3, 1) := by decide +kernel
theorem dX0_listen_10 : decode cX0_listen 10 = .ok (.iload_n 3, 1) := by decide +kernel
theorem dX0_listen_11 : decode cX0_listen 11 = .ok (.aload_n 1, 1) := by decide +kernel
theorem dX0_listen_12 : decode cX0_listen 12 = .ok (.invokevirtual 51, 3) := by decide +kernel
theorem dX0_listen_15 : decode cX0_listen 15 = .ok (.if_icmp .ge 64, 3) := by decide +kernel
theorem dX0_listen_18 : decode cX0_listen 18 = .ok (.aload_n 1, 1) := by decide +kernel
theorem dX0_listen_19 : decode cX0_listen 19 = .ok (.iload_n 3, 1) := by decide +kernel
theorem dX0_listen_20 : decode cX0_listen 20 = .ok (.invokevirtual 28, 3) := by decide +kernel
theorem dX0_listen_23 : decode cX0_listen 23 = .ok (.istore 4, 2) := by decide +kernel
theorem dX0_listen_25 : decode cX0_listen 25 = .ok (.aload_n 1, 1) := by decide +kernel
theorem dX0_listen_26 : decode cX0_listen 26 = .ok (.iload_n 3, 1) := by decide +kernel
theorem dX0_listen_27 : decode cX0_listen 27 = .ok (.invokevirtual 34, 3) := by decide +kernel
theorem dX0_listen_30 : decode cX0_listen 30 = .ok (.istore 5, 2) := by decide +kernel
theorem dX0_listen_32 : decode cX0_listen 32 = .ok (.aload_n 1, 1) := by decide +kernel
theorem dX0_listen_33 : decode cX0_listen 33 = .ok (.iload_n 3, 1) := by decide +kernel
theorem dX0_listen_34 : decode cX0_listen 34 = .ok (.invokevirtual 55, 3) := by decide +kernel
theorem dX0_listen_37 : decode cX0_listen 37 = .ok (.ifCond .eq 36, 3) := by decide +kernel
theorem dX0_listen_40 : decode cX0_listen 40 = .ok (.iload_n 2, 1) := by decide +kernel
theorem dX0_listen_41 : decode cX0_listen 41 = .ok (.iload 4, 2) := by decide +kernel
theorem dX0_listen_43 : decode cX0_listen 43 = .ok (.invokestatic 41, 3) := by decide +kernel
theorem dX0_listen_46 : decode cX0_listen 46 = .ok (.ifCond .ne 27, 3) := by decide +kernel
theorem dX0_listen_49 : decode cX0_listen 49 = .ok (.iload_n 2, 1) := by decide +kernel
theorem dX0_listen_50 : decode cX0_listen 50 = .ok (.iload 5, 2) := by decide +kernel
theorem dX0_listen_52 : decode cX0_listen 52 = .ok (.invokestatic 41, 3) := by decide +kernel
theorem dX0_listen_55 : decode cX0_listen 55 = .ok (.ifCond .ne 18, 3) := by decide +kernel
theorem dX0_listen_58 : decode cX0_listen 58 = .ok (.aload_n 0, 1) := by decide +kernel
theorem dX0_listen_59 : decode cX0_listen 59 = .ok (.getfield 9, 3) := by decide +kernel
theorem dX0_listen_62 : decode cX0_listen 62 = .ok (.iload 4, 2) := by decide +kernel
theorem dX0_listen_64 : decode cX0_listen 64 = .ok (.dup2, 1) := by decide +kernel
theorem dX0_listen_65 : decode cX0_listen 65 = .ok (.iaload, 1) := by decide +kernel
theorem dX0_listen_66 : decode cX0_listen 66 = .ok (.iload 5, 2) := by decide +kernel
theorem dX0_listen_68 : decode cX0_listen 68 = .ok (.invokestatic 31, 3) := by decide +kernel
theorem dX0_listen_71 : decode cX0_listen 71 = .ok (.ior, 1) := by decide +kernel
theorem dX0_listen_72 : decode cX0_listen 72 = .ok (.iastore, 1) := by decide +kernel
theorem dX0_listen_73 : decode cX0_listen 73 = .ok (.iinc 3 1, 3) := by decide +kernel
theorem dX0_listen_76 : decode cX0_listen 76 = .ok (.goto (-66), 3) := by decide +kernel
theorem dX0_listen_79 : decode cX0_listen 79 = .ok (.return_, 1) := by decide +kernel
set_option maxRecDepth 20000 in
theorem ggX0_fewestAway_J6_bitCount_0f7a4 : GoodIn wsX0_fewestAway wsJ6_bitCount_0f7a4 := goodIn_r _ [4, 5, 6, 7] (by decide +kernel) (by decide +kernel)
set_option maxRecDepth 20000 in
theorem gX0_fewestAway_J6_bitCount_0f7a4 : GoodIn wsX0_fewestAway (va_wsS RX0 58 yJ6_bitCount_0f7a4 wsJ6_bitCount_0f7a4) := goodIn_app (goodIn_of _ (by decide +kernel)) ggX0_fewestAway_J6_bitCount_0f7a4
set_option maxRecDepth 20000 in
theorem ggX0_fewestAway_X0_inRings : GoodIn wsX0_fewestAway wsX0_inRings := goodIn_r _ [12, 13, 14, 15, 16, 11, 17, 18, 19, 20, 21, 22, 23, 24, 25, 26, 27, 28, 29, 30, 31, 32, 33, 34, 35, 36, 37, 38, 39, 40, 41, 42, 43, 44, 45, 46, 47, 48, 49, 50, 51, 52, 53, 54, 55, 56, 57, 58] (by decide +kernel) (by decide +kernel)
set_option maxRecDepth 20000 in
theorem gX0_fewestAway_X0_inRings : GoodIn wsX0_fewestAway (wsV RX0 63 RX0 yX0_inRings wsX0_inRings) := goodIn_app (goodIn_of _ (by decide +kernel)) ggX0_fewestAway_X0_inRings
theorem dX0_fewestAway_0 : decode cX0_fewestAway 0 = .ok (.bipush 63, 2) := by decide +kernel
theorem dX0_fewestAway_2 : decode cX0_fewestAway 2 = .ok (.istore_n 2, 1) := by decide +kernel
theorem dX0_fewestAway_3 : decode cX0_fewestAway 3 = .ok (.iconst 0, 1) := by decide +kernel
theorem dX0_fewestAway_4 : decode cX0_fewestAway 4 = .ok (.istore_n 3, 1) := by decide +kernel
theorem dX0_fewestAway_5 : decode cX0_fewestAway 5 = .ok (.iload_n 3, 1) := by decide +kernel
theorem dX0_fewestAway_6 : decode cX0_fewestAway 6 = .ok (.bipush 63, 2) := by decide +kernel
theorem dX0_fewestAway_8 : decode cX0_fewestAway 8 = .ok (.if_icmp .ge 31, 3) := by decide +kernel
theorem dX0_fewestAway_11 : decode cX0_fewestAway 11 = .ok (.iload_n 3, 1) := by decide +kernel
theorem dX0_fewestAway_12 : decode cX0_fewestAway 12 = .ok (.invokestatic 58, 3) := by decide +kernel
theorem dX0_fewestAway_15 : decode cX0_fewestAway 15 = .ok (.iload_n 2, 1) := by decide +kernel
theorem dX0_fewestAway_16 : decode cX0_fewestAway 16 = .ok (.invokestatic 58, 3) := by decide +kernel
theorem dX0_fewestAway_19 : decode cX0_fewestAway 19 = .ok (.if_icmp .ge 14, 3) := by decide +kernel
theorem dX0_fewestAway_22 : decode cX0_fewestAway 22 = .ok (.aload_n 0, 1) := by decide +kernel
theorem dX0_fewestAway_23 : decode cX0_fewestAway 23 = .ok (.aload_n 1, 1) := by decide +kernel
theorem dX0_fewestAway_24 : decode cX0_fewestAway 24 = .ok (.iload_n 3, 1) := by decide +kernel
theorem dX0_fewestAway_25 : decode cX0_fewestAway 25 = .ok (.invokevirtual 63, 3) := by decide +kernel
theorem dX0_fewestAway_28 : decode cX0_fewestAway 28 = .ok (.ifCond .ne 5, 3) := by decide +kernel
theorem dX0_fewestAway_31 : decode cX0_fewestAway 31 = .ok (.iload_n 3, 1) := by decide +kernel
theorem dX0_fewestAway_32 : decode cX0_fewestAway 32 = .ok (.istore_n 2, 1) := by decide +kernel
theorem dX0_fewestAway_33 : decode cX0_fewestAway 33 = .ok (.iinc 3 1, 3) := by decide +kernel
theorem dX0_fewestAway_36 : decode cX0_fewestAway 36 = .ok (.goto (-31), 3) := by decide +kernel
theorem dX0_fewestAway_39 : decode cX0_fewestAway 39 = .ok (.iload_n 2, 1) := by decide +kernel
theorem dX0_fewestAway_40 : decode cX0_fewestAway 40 = .ok (.ireturn, 1) := by decide +kernel
theorem dX2_init_0 : decode cX2_init 0 = .ok (.aload_n 0, 1) := by decide +kernel
theorem dX2_init_1 : decode cX2_init 1 = .ok (.invokespecial 3, 3) := by decide +kernel
theorem dX2_init_4 : decode cX2_init 4 = .ok (.aload_n 0, 1) := by decide +kernel
theorem dX2_init_5 : decode cX2_init 5 = .ok (.sipush 4096, 3) := by decide +kernel
theorem dX2_init_8 : decode cX2_init 8 = .ok (.newarray .int, 2) := by decide +kernel
theorem dX2_init_10 : decode cX2_init 10 = .ok (.putfield 9, 3) := by decide +kernel
theorem dX2_init_13 : decode cX2_init 13 = .ok (.aload_n 0, 1) := by decide +kernel
theorem dX2_init_14 : decode cX2_init 14 = .ok (.bipush 12, 2) := by decide +kernel
theorem dX2_init_16 : decode cX2_init 16 = .ok (.newarray .int, 2) := by decide +kernel
theorem dX2_init_18 : decode cX2_init 18 = .ok (.putfield 15, 3) := by decide +kernel
theorem dX2_init_21 : decode cX2_init 21 = .ok (.aload_n 0, 1) := by decide +kernel
theorem dX2_init_22 : decode cX2_init 22 = .ok (.bipush 12, 2) := by decide +kernel
theorem dX2_init_24 : decode cX2_init 24 = .ok (.newarray .int, 2) := by decide +kernel
theorem dX2_init_26 : decode cX2_init 26 = .ok (.putfield 18, 3) := by decide +kernel
theorem dX2_init_29 : decode cX2_init 29 = .ok (.return_, 1) := by decide +kernel
set_option maxRecDepth 20000 in
theorem ggX2_weigh_X1_saidBits : GoodIn wsX2_weigh wsX1_saidBits := goodIn_r _ [8, 9, 74, 75, 76, 77, 78, 79, 80, 81, 82, 83] (by decide +kernel) (by decide +kernel)
set_option maxRecDepth 20000 in
theorem gX2_weigh_X1_saidBits : GoodIn wsX2_weigh (wsV RX2 21 RX1 yX1_saidBits wsX1_saidBits) := goodIn_app (goodIn_of _ (by decide +kernel)) ggX2_weigh_X1_saidBits
set_option maxRecDepth 20000 in
theorem ggX2_weigh_X1_howMany : GoodIn wsX2_weigh wsX1_howMany := goodIn_r _ [13, 14, 74, 75, 76, 77, 78, 79, 80, 81, 82, 83] (by decide +kernel) (by decide +kernel)
set_option maxRecDepth 20000 in
theorem gX2_weigh_X1_howMany : GoodIn wsX2_weigh (wsV RX2 27 RX1 yX1_howMany wsX1_howMany) := goodIn_app (goodIn_of _ (by decide +kernel)) ggX2_weigh_X1_howMany
set_option maxRecDepth 20000 in
theorem ggX2_weigh_X1_others : GoodIn wsX2_weigh wsX1_others := goodIn_r _ [18, 19, 20, 21, 22, 23, 7, 24, 14, 25, 26, 27, 74, 75, 76, 77, 78, 79, 80, 81, 82, 83] (by decide +kernel) (by decide +kernel)
set_option maxRecDepth 20000 in
theorem gX2_weigh_X1_others : GoodIn wsX2_weigh (wsV RX2 30 RX1 yX1_others wsX1_others) := goodIn_app (goodIn_of _ (by decide +kernel)) ggX2_weigh_X1_others
set_option maxRecDepth 20000 in
theorem ggX2_weigh_X1_holders : GoodIn wsX2_weigh wsX1_holders := goodIn_r _ [31, 32, 33, 34, 35, 7, 36, 14, 37, 25, 26, 27, 74, 75, 76, 77, 78, 79, 80, 81, 82, 83] (by decide +kernel) (by decide +kernel)
set_option maxRecDepth 20000 in
theorem gX2_weigh_X1_holders : GoodIn wsX2_weigh (wsV RX2 33 RX1 yX1_holders wsX1_holders) := goodIn_app (goodIn_of _ (by decide +kernel)) ggX2_weigh_X1_holders
set_option maxRecDepth 20000 in
theorem ggX2_weigh_X2_leastOf : GoodIn wsX2_weigh wsX2_leastOf := goodIn_r _ [42, 43, 44, 45, 46, 47, 10, 11, 12, 7, 13, 14, 48, 49, 50, 41, 51, 2, 52, 26, 53, 54, 55, 56, 57, 1, 3, 58, 59, 60, 61, 62, 63, 64, 65, 66, 67, 68, 32, 69, 70, 25, 27, 74, 75, 76, 77, 78, 79, 80, 81, 82, 83, 71, 72, 73] (by decide +kernel) (by decide +kernel)
set_option maxRecDepth 20000 in
theorem gX2_weigh_X2_leastOf : GoodIn wsX2_weigh (wsV RX2 35 RX2 yX2_leastOf wsX2_leastOf) := goodIn_app (goodIn_of _ (by decide +kernel)) ggX2_weigh_X2_leastOf
theorem dX2_weigh_0 : decode cX2_weigh 0 = .ok (.aload_n 1, 1) := by decide +kernel
theorem dX2_weigh_1 : decode cX2_weigh 1 = .ok (.invokevirtual 21, 3) := by decide +kernel
theorem dX2_weigh_4 : decode cX2_weigh 4 = .ok (.istore_n 2, 1) := by decide +kernel
theorem dX2_weigh_5 : decode cX2_weigh 5 = .ok (.iconst 0, 1) := by decide +kernel
theorem dX2_weigh_6 : decode cX2_weigh 6 = .ok (.istore_n 3, 1) := by decide +kernel
theorem dX2_weigh_7 : decode cX2_weigh 7 = .ok (.iload_n 3, 1) := by decide +kernel
theorem dX2_weigh_8 : decode cX2_weigh 8 = .ok (.aload_n 1, 1) := by decide +kernel
theorem dX2_weigh_9 : decode cX2_weigh 9 = .ok (.invokevirtual 27, 3) := by decide +kernel
theorem dX2_weigh_12 : decode cX2_weigh 12 = .ok (.if_icmp .ge 31, 3) := by decide +kernel
theorem dX2_weigh_15 : decode cX2_weigh 15 = .ok (.aload_n 0, 1) := by decide +kernel
theorem dX2_weigh_16 : decode cX2_weigh 16 = .ok (.getfield 15, 3) := by decide +kernel
theorem dX2_weigh_19 : decode cX2_weigh 19 = .ok (.iload_n 3, 1) := by decide +kernel
theorem dX2_weigh_20 : decode cX2_weigh 20 = .ok (.aload_n 1, 1) := by decide +kernel
theorem dX2_weigh_21 : decode cX2_weigh 21 = .ok (.iload_n 3, 1) := by decide +kernel
theorem dX2_weigh_22 : decode cX2_weigh 22 = .ok (.invokevirtual 30, 3) := by decide +kernel
theorem dX2_weigh_25 : decode cX2_weigh 25 = .ok (.iastore, 1) := by decide +kernel
theorem dX2_weigh_26 : decode cX2_weigh 26 = .ok (.aload_n 0, 1) := by decide +kernel
theorem dX2_weigh_27 : decode cX2_weigh 27 = .ok (.getfield 18, 3) := by decide +kernel
theorem dX2_weigh_30 : decode cX2_weigh 30 = .ok (.iload_n 3, 1) := by decide +kernel
theorem dX2_weigh_31 : decode cX2_weigh 31 = .ok (.aload_n 1, 1) := by decide +kernel
theorem dX2_weigh_32 : decode cX2_weigh 32 = .ok (.iload_n 3, 1) := by decide +kernel
theorem dX2_weigh_33 : decode cX2_weigh 33 = .ok (.invokevirtual 33, 3) := by decide +kernel
theorem dX2_weigh_36 : decode cX2_weigh 36 = .ok (.iastore, 1) := by decide +kernel
theorem dX2_weigh_37 : decode cX2_weigh 37 = .ok (.iinc 3 1, 3) := by decide +kernel
theorem dX2_weigh_40 : decode cX2_weigh 40 = .ok (.goto (-33), 3) := by decide +kernel
theorem dX2_weigh_43 : decode cX2_weigh 43 = .ok (.aload_n 0, 1) := by decide +kernel
theorem dX2_weigh_44 : decode cX2_weigh 44 = .ok (.getfield 9, 3) := by decide +kernel
theorem dX2_weigh_47 : decode cX2_weigh 47 = .ok (.iconst 0, 1) := by decide +kernel
theorem dX2_weigh_48 : decode cX2_weigh 48 = .ok (.iconst 0, 1) := by decide +kernel
theorem dX2_weigh_49 : decode cX2_weigh 49 = .ok (.iastore, 1) := by decide +kernel
theorem dX2_weigh_50 : decode cX2_weigh 50 = .ok (.iconst 1, 1) := by decide +kernel
theorem dX2_weigh_51 : decode cX2_weigh 51 = .ok (.istore_n 3, 1) := by decide +kernel
theorem dX2_weigh_52 : decode cX2_weigh 52 = .ok (.iload_n 3, 1) := by decide +kernel
theorem dX2_weigh_53 : decode cX2_weigh 53 = .ok (.iload_n 2, 1) := by decide +kernel
theorem dX2_weigh_54 : decode cX2_weigh 54 = .ok (.if_icmp .gt 29, 3) := by decide +kernel
theorem dX2_weigh_57 : decode cX2_weigh 57 = .ok (.iload_n 3, 1) := by decide +kernel
theorem dX2_weigh_58 : decode cX2_weigh 58 = .ok (.iload_n 2, 1) := by decide +kernel
theorem dX2_weigh_59 : decode cX2_weigh 59 = .ok (.iconst (-1), 1) := by decide +kernel
theorem dX2_weigh_60 : decode cX2_weigh 60 = .ok (.ixor, 1) := by decide +kernel
theorem dX2_weigh_61 : decode cX2_weigh 61 = .ok (.iand, 1) := by decide +kernel
theorem dX2_weigh_62 : decode cX2_weigh 62 = .ok (.ifCond .ne 15, 3) := by decide +kernel
theorem dX2_weigh_65 : decode cX2_weigh 65 = .ok (.aload_n 0, 1) := by decide +kernel
theorem dX2_weigh_66 : decode cX2_weigh 66 = .ok (.getfield 9, 3) := by decide +kernel
theorem dX2_weigh_69 : decode cX2_weigh 69 = .ok (.iload_n 3, 1) := by decide +kernel
theorem dX2_weigh_70 : decode cX2_weigh 70 = .ok (.aload_n 0, 1) := by decide +kernel
theorem dX2_weigh_71 : decode cX2_weigh 71 = .ok (.aload_n 1, 1) := by decide +kernel
theorem dX2_weigh_72 : decode cX2_weigh 72 = .ok (.iload_n 3, 1) := by decide +kernel
theorem dX2_weigh_73 : decode cX2_weigh 73 = .ok (.invokevirtual 35, 3) := by decide +kernel
theorem dX2_weigh_76 : decode cX2_weigh 76 = .ok (.iastore, 1) := by decide +kernel
theorem dX2_weigh_77 : decode cX2_weigh 77 = .ok (.iinc 3 1, 3) := by decide +kernel
theorem dX2_weigh_80 : decode cX2_weigh 80 = .ok (.goto (-28), 3) := by decide +kernel
theorem dX2_weigh_83 : decode cX2_weigh 83 = .ok (.aload_n 0, 1) := by decide +kernel
theorem dX2_weigh_84 : decode cX2_weigh 84 = .ok (.getfield 9, 3) := by decide +kernel
theorem dX2_weigh_87 : decode cX2_weigh 87 = .ok (.iload_n 2, 1) := by decide +kernel
theorem dX2_weigh_88 : decode cX2_weigh 88 = .ok (.iaload, 1) := by decide +kernel
theorem dX2_weigh_89 : decode cX2_weigh 89 = .ok (.ireturn, 1) := by decide +kernel
set_option maxRecDepth 20000 in
theorem ggX2_leastOf_X1_howMany : GoodIn wsX2_leastOf wsX1_howMany := goodIn_r _ [10, 11, 43, 44, 45, 46, 47, 48, 49, 50, 51, 52] (by decide +kernel) (by decide +kernel)
set_option maxRecDepth 20000 in
theorem gX2_leastOf_X1_howMany : GoodIn wsX2_leastOf (wsV RX2 27 RX1 yX1_howMany wsX1_howMany) := goodIn_app (goodIn_of _ (by decide +kernel)) ggX2_leastOf_X1_howMany
set_option maxRecDepth 20000 in
theorem ggX2_leastOf_X2_canGo : GoodIn wsX2_leastOf wsX2_canGo := goodIn_r _ [16, 17, 18, 19, 20, 53, 54, 55] (by decide +kernel) (by decide +kernel)
set_option maxRecDepth 20000 in
theorem gX2_leastOf_X2_canGo : GoodIn wsX2_leastOf (wsV RX2 40 RX2 yX2_canGo wsX2_canGo) := goodIn_app (goodIn_of _ (by decide +kernel)) ggX2_leastOf_X2_canGo
set_option maxRecDepth 20000 in
theorem ggX2_leastOf_X2_costFrom : GoodIn wsX2_leastOf wsX2_costFrom := goodIn_r _ [24, 25, 26, 27, 28, 29, 30, 31, 32, 33, 34, 35, 36, 9, 37, 38, 39, 40, 41, 19, 42, 53, 54, 55, 43, 44, 45, 46, 47, 48, 49, 50, 51, 52] (by decide +kernel) (by decide +kernel)
set_option maxRecDepth 20000 in
theorem gX2_leastOf_X2_costFrom : GoodIn wsX2_leastOf (wsV RX2 44 RX2 yX2_costFrom wsX2_costFrom) := goodIn_app (goodIn_of _ (by decide +kernel)) ggX2_leastOf_X2_costFrom
theorem dX2_leastOf_0 : decode cX2_leastOf 0 = .ok (.ldc 39, 2) := by decide +kernel
theorem dX2_leastOf_2 : decode cX2_leastOf 2 = .ok (.istore_n 3, 1) := by decide +kernel
theorem dX2_leastOf_3 : decode cX2_leastOf 3 = .ok (.iconst 0, 1) := by decide +kernel
theorem dX2_leastOf_4 : decode cX2_leastOf 4 = .ok (.istore 4, 2) := by decide +kernel
theorem dX2_leastOf_6 : decode cX2_leastOf 6 = .ok (.iload 4, 2) := by decide +kernel
theorem dX2_leastOf_8 : decode cX2_leastOf 8 = .ok (.aload_n 1, 1) := by decide +kernel
theorem dX2_leastOf_9 : decode cX2_leastOf 9 = .ok (.invokevirtual 27, 3) := by decide +kernel
theorem dX2_leastOf_12 : decode cX2_leastOf 12 = .ok (.if_icmp .ge 32, 3) := by decide +kernel
theorem dX2_leastOf_15 : decode cX2_leastOf 15 = .ok (.aload_n 0, 1) := by decide +kernel
theorem dX2_leastOf_16 : decode cX2_leastOf 16 = .ok (.iload 4, 2) := by decide +kernel
theorem dX2_leastOf_18 : decode cX2_leastOf 18 = .ok (.iload_n 2, 1) := by decide +kernel
theorem dX2_leastOf_19 : decode cX2_leastOf 19 = .ok (.invokevirtual 40, 3) := by decide +kernel
theorem dX2_leastOf_22 : decode cX2_leastOf 22 = .ok (.ifCond .eq 16, 3) := by decide +kernel
theorem dX2_leastOf_25 : decode cX2_leastOf 25 = .ok (.iload_n 3, 1) := by decide +kernel
theorem dX2_leastOf_26 : decode cX2_leastOf 26 = .ok (.aload_n 0, 1) := by decide +kernel
theorem dX2_leastOf_27 : decode cX2_leastOf 27 = .ok (.aload_n 1, 1) := by decide +kernel
theorem dX2_leastOf_28 : decode cX2_leastOf 28 = .ok (.iload 4, 2) := by decide +kernel
theorem dX2_leastOf_30 : decode cX2_leastOf 30 = .ok (.iload_n 2, 1) := by decide +kernel
theorem dX2_leastOf_31 : decode cX2_leastOf 31 = .ok (.invokevirtual 44, 3) := by decide +kernel
theorem dX2_leastOf_34 : decode cX2_leastOf 34 = .ok (.invokestatic 48, 3) := by decide +kernel
theorem dX2_leastOf_37 : decode cX2_leastOf 37 = .ok (.istore_n 3, 1) := by decide +kernel
theorem dX2_leastOf_38 : decode cX2_leastOf 38 = .ok (.iinc 4 1, 3) := by decide +kernel
theorem dX2_leastOf_41 : decode cX2_leastOf 41 = .ok (.goto (-35), 3) := by decide +kernel
theorem dX2_leastOf_44 : decode cX2_leastOf 44 = .ok (.iload_n 3, 1) := by decide +kernel
theorem dX2_leastOf_45 : decode cX2_leastOf 45 = .ok (.ireturn, 1) := by decide +kernel
set_option maxRecDepth 20000 in
theorem ggX2_canGo_X7_hasBit : GoodIn wsX2_canGo wsX7_hasBit := goodIn_r _ [4] (by decide +kernel) (by decide +kernel)
set_option maxRecDepth 20000 in
theorem gX2_canGo_X7_hasBit_n54 : GoodIn wsX2_canGo (wsX7_hasBit) := ggX2_canGo_X7_hasBit
theorem dX2_canGo_0 : decode cX2_canGo 0 = .ok (.iload_n 2, 1) := by decide +kernel
theorem dX2_canGo_1 : decode cX2_canGo 1 = .ok (.iload_n 1, 1) := by decide +kernel
theorem dX2_canGo_2 : decode cX2_canGo 2 = .ok (.invokestatic 54, 3) := by decide +kernel
theorem dX2_canGo_5 : decode cX2_canGo 5 = .ok (.ifCond .eq 18, 3) := by decide +kernel
theorem dX2_canGo_8 : decode cX2_canGo 8 = .ok (.aload_n 0, 1) := by decide +kernel
theorem dX2_canGo_9 : decode cX2_canGo 9 = .ok (.getfield 18, 3) := by decide +kernel
theorem dX2_canGo_12 : decode cX2_canGo 12 = .ok (.iload_n 1, 1) := by decide +kernel
theorem dX2_canGo_13 : decode cX2_canGo 13 = .ok (.iaload, 1) := by decide +kernel
theorem dX2_canGo_14 : decode cX2_canGo 14 = .ok (.iload_n 2, 1) := by decide +kernel
theorem dX2_canGo_15 : decode cX2_canGo 15 = .ok (.iand, 1) := by decide +kernel
theorem dX2_canGo_16 : decode cX2_canGo 16 = .ok (.ifCond .ne 7, 3) := by decide +kernel
theorem dX2_canGo_19 : decode cX2_canGo 19 = .ok (.iconst 1, 1) := by decide +kernel
theorem dX2_canGo_20 : decode cX2_canGo 20 = .ok (.goto 4, 3) := by decide +kernel
theorem dX2_canGo_23 : decode cX2_canGo 23 = .ok (.iconst 0, 1) := by decide +kernel
theorem dX2_canGo_24 : decode cX2_canGo 24 = .ok (.ireturn, 1) := by decide +kernel
set_option maxRecDepth 20000 in
theorem ggX2_costFrom_J6_bitCount_0f7a4 : GoodIn wsX2_costFrom wsJ6_bitCount_0f7a4 := goodIn_r _ [6, 7, 8, 9] (by decide +kernel) (by decide +kernel)
set_option maxRecDepth 20000 in
theorem gX2_costFrom_J6_bitCount_0f7a4 : GoodIn wsX2_costFrom (va_wsS RX2 57 yJ6_bitCount_0f7a4 wsJ6_bitCount_0f7a4) := goodIn_app (goodIn_of _ (by decide +kernel)) ggX2_costFrom_J6_bitCount_0f7a4
set_option maxRecDepth 20000 in
theorem ggX2_costFrom_X1_priceAtHeat : GoodIn wsX2_costFrom wsX1_priceAtHeat := goodIn_r _ [14, 15, 16, 17, 24, 25, 26, 27, 28, 29, 30, 31, 32, 33] (by decide +kernel) (by decide +kernel)
set_option maxRecDepth 20000 in
theorem gX2_costFrom_X1_priceAtHeat : GoodIn wsX2_costFrom (wsV RX2 62 RX1 yX1_priceAtHeat wsX1_priceAtHeat) := goodIn_app (goodIn_of _ (by decide +kernel)) ggX2_costFrom_X1_priceAtHeat
set_option maxRecDepth 20000 in
theorem ggX2_costFrom_X7_bit : GoodIn wsX2_costFrom wsX7_bit := goodIn_r _ [20] (by decide +kernel) (by decide +kernel)
set_option maxRecDepth 20000 in
theorem gX2_costFrom_X7_bit_n65 : GoodIn wsX2_costFrom (wsX7_bit) := ggX2_costFrom_X7_bit
theorem dX2_costFrom_0 : decode cX2_costFrom 0 = .ok (.aload_n 1, 1) := by decide +kernel
theorem dX2_costFrom_1 : decode cX2_costFrom 1 = .ok (.iload_n 2, 1) := by decide +kernel
theorem dX2_costFrom_2 : decode cX2_costFrom 2 = .ok (.aload_n 0, 1) := by decide +kernel
theorem dX2_costFrom_3 : decode cX2_costFrom 3 = .ok (.getfield 15, 3) := by decide +kernel
theorem dX2_costFrom_6 : decode cX2_costFrom 6 = .ok (.iload_n 2, 1) := by decide +kernel
theorem dX2_costFrom_7 : decode cX2_costFrom 7 = .ok (.iaload, 1) := by decide +kernel
theorem dX2_costFrom_8 : decode cX2_costFrom 8 = .ok (.iload_n 3, 1) := by decide +kernel
theorem dX2_costFrom_9 : decode cX2_costFrom 9 = .ok (.iand, 1) := by decide +kernel
theorem dX2_costFrom_10 : decode cX2_costFrom 10 = .ok (.invokestatic 57, 3) := by decide +kernel
theorem dX2_costFrom_13 : decode cX2_costFrom 13 = .ok (.invokevirtual 62, 3) := by decide +kernel
theorem dX2_costFrom_16 : decode cX2_costFrom 16 = .ok (.aload_n 0, 1) := by decide +kernel
theorem dX2_costFrom_17 : decode cX2_costFrom 17 = .ok (.getfield 9, 3) := by decide +kernel
theorem dX2_costFrom_20 : decode cX2_costFrom 20 = .ok (.iload_n 3, 1) := by decide +kernel
theorem dX2_costFrom_21 : decode cX2_costFrom 21 = .ok (.iload_n 2, 1) := by decide +kernel
theorem dX2_costFrom_22 : decode cX2_costFrom 22 = .ok (.invokestatic 65, 3) := by decide +kernel
theorem dX2_costFrom_25 : decode cX2_costFrom 25 = .ok (.iconst (-1), 1) := by decide +kernel
theorem dX2_costFrom_26 : decode cX2_costFrom 26 = .ok (.ixor, 1) := by decide +kernel
theorem dX2_costFrom_27 : decode cX2_costFrom 27 = .ok (.iand, 1) := by decide +kernel
theorem dX2_costFrom_28 : decode cX2_costFrom 28 = .ok (.iaload, 1) := by decide +kernel
theorem dX2_costFrom_29 : decode cX2_costFrom 29 = .ok (.iadd, 1) := by decide +kernel
theorem dX2_costFrom_30 : decode cX2_costFrom 30 = .ok (.ireturn, 1) := by decide +kernel
set_option maxRecDepth 20000 in
theorem ggX2_writeCheapest_X1_saidBits : GoodIn wsX2_writeCheapest wsX1_saidBits := goodIn_r _ [5, 6, 66, 67, 68, 69, 70, 71, 72, 73, 74, 75] (by decide +kernel) (by decide +kernel)
set_option maxRecDepth 20000 in
theorem gX2_writeCheapest_X1_saidBits : GoodIn wsX2_writeCheapest (wsV RX2 21 RX1 yX1_saidBits wsX1_saidBits) := goodIn_app (goodIn_of _ (by decide +kernel)) ggX2_writeCheapest_X1_saidBits
set_option maxRecDepth 20000 in
theorem ggX2_writeCheapest_J6_bitCount_0f7a4 : GoodIn wsX2_writeCheapest wsJ6_bitCount_0f7a4 := goodIn_r _ [10, 11, 12, 13] (by decide +kernel) (by decide +kernel)
set_option maxRecDepth 20000 in
theorem gX2_writeCheapest_J6_bitCount_0f7a4 : GoodIn wsX2_writeCheapest (va_wsS RX2 57 yJ6_bitCount_0f7a4 wsJ6_bitCount_0f7a4) := goodIn_app (goodIn_of _ (by decide +kernel)) ggX2_writeCheapest_J6_bitCount_0f7a4
set_option maxRecDepth 20000 in
theorem ggX2_writeCheapest_X5_makeAnew : GoodIn wsX2_writeCheapest wsX5_makeAnew := goodIn_r _ [18, 19, 20, 21, 22, 23, 24, 25, 26, 27, 28, 76, 77, 78] (by decide +kernel) (by decide +kernel)
set_option maxRecDepth 20000 in
theorem gX2_writeCheapest_X5_makeAnew : GoodIn wsX2_writeCheapest (wsV RX2 68 RX5 yX5_makeAnew wsX5_makeAnew) := goodIn_app (goodIn_of _ (by decide +kernel)) ggX2_writeCheapest_X5_makeAnew
set_option maxRecDepth 20000 in
theorem ggX2_writeCheapest_X2_firstOfCheapest : GoodIn wsX2_writeCheapest wsX2_firstOfCheapest := goodIn_r _ [33, 34, 35, 36, 37, 4, 38, 39, 40, 41, 42, 32, 43, 44, 45, 46, 47, 48, 49, 50, 51, 52, 7, 8, 9, 10, 11, 12, 13, 53, 54, 55, 56, 57, 58, 59, 60, 61, 79, 80, 81, 66, 67, 68, 69, 70, 71, 72, 73, 74, 75] (by decide +kernel) (by decide +kernel)
set_option maxRecDepth 20000 in
theorem gX2_writeCheapest_X2_firstOfCheapest : GoodIn wsX2_writeCheapest (wsV RX2 74 RX2 yX2_firstOfCheapest wsX2_firstOfCheapest) := goodIn_app (goodIn_of _ (by decide +kernel)) ggX2_writeCheapest_X2_firstOfCheapest
set_option maxRecDepth 20000 in
theorem ggX2_writeCheapest_X5_setCell : GoodIn wsX2_writeCheapest wsX5_setCell := goodIn_r _ [65, 20, 21, 76, 77, 78] (by decide +kernel) (by decide +kernel)
set_option maxRecDepth 20000 in
theorem gX2_writeCheapest_X5_setCell : GoodIn wsX2_writeCheapest (wsV RX2 77 RX5 yX5_setCell wsX5_setCell) := goodIn_app (goodIn_of _ (by decide +kernel)) ggX2_writeCheapest_X5_setCell
set_option maxRecDepth 20000 in
theorem ggX2_writeCheapest_X7_bit : GoodIn wsX2_writeCheapest wsX7_bit := goodIn_r _ [61] (by decide +kernel) (by decide +kernel)
set_option maxRecDepth 20000 in
theorem gX2_writeCheapest_X7_bit_n65 : GoodIn wsX2_writeCheapest (wsX7_bit) := ggX2_writeCheapest_X7_bit
theorem dX2_writeCheapest_0 : decode cX2_writeCheapest 0 = .ok (.aload_n 1, 1) := by decide +kernel
theorem dX2_writeCheapest_1 : decode cX2_writeCheapest 1 = .ok (.invokevirtual 21, 3) := by decide +kernel
theorem dX2_writeCheapest_4 : decode cX2_writeCheapest 4 = .ok (.istore 4, 2) := by decide +kernel
theorem dX2_writeCheapest_6 : decode cX2_writeCheapest 6 = .ok (.iload 4, 2) := by decide +kernel
theorem dX2_writeCheapest_8 : decode cX2_writeCheapest 8 = .ok (.invokestatic 57, 3) := by decide +kernel
theorem dX2_writeCheapest_11 : decode cX2_writeCheapest 11 = .ok (.istore 5, 2) := by decide +kernel
theorem dX2_writeCheapest_13 : decode cX2_writeCheapest 13 = .ok (.aload_n 2, 1) := by decide +kernel
theorem dX2_writeCheapest_14 : decode cX2_writeCheapest 14 = .ok (.iload_n 3, 1) := by decide +kernel
theorem dX2_writeCheapest_15 : decode cX2_writeCheapest 15 = .ok (.iload 5, 2) := by decide +kernel
theorem dX2_writeCheapest_17 : decode cX2_writeCheapest 17 = .ok (.iconst 0, 1) := by decide +kernel
theorem dX2_writeCheapest_18 : decode cX2_writeCheapest 18 = .ok (.invokevirtual 68, 3) := by decide +kernel
theorem dX2_writeCheapest_21 : decode cX2_writeCheapest 21 = .ok (.iconst 0, 1) := by decide +kernel
theorem dX2_writeCheapest_22 : decode cX2_writeCheapest 22 = .ok (.istore 6, 2) := by decide +kernel
theorem dX2_writeCheapest_24 : decode cX2_writeCheapest 24 = .ok (.iload 6, 2) := by decide +kernel
theorem dX2_writeCheapest_26 : decode cX2_writeCheapest 26 = .ok (.iload 5, 2) := by decide +kernel
theorem dX2_writeCheapest_28 : decode cX2_writeCheapest 28 = .ok (.if_icmp .ge 39, 3) := by decide +kernel
theorem dX2_writeCheapest_31 : decode cX2_writeCheapest 31 = .ok (.aload_n 0, 1) := by decide +kernel
theorem dX2_writeCheapest_32 : decode cX2_writeCheapest 32 = .ok (.aload_n 1, 1) := by decide +kernel
theorem dX2_writeCheapest_33 : decode cX2_writeCheapest 33 = .ok (.iload 4, 2) := by decide +kernel
theorem dX2_writeCheapest_35 : decode cX2_writeCheapest 35 = .ok (.invokevirtual 74, 3) := by decide +kernel
theorem dX2_writeCheapest_38 : decode cX2_writeCheapest 38 = .ok (.istore 7, 2) := by decide +kernel
theorem dX2_writeCheapest_40 : decode cX2_writeCheapest 40 = .ok (.aload_n 2, 1) := by decide +kernel
theorem dX2_writeCheapest_41 : decode cX2_writeCheapest 41 = .ok (.iload_n 3, 1) := by decide +kernel
theorem dX2_writeCheapest_42 : decode cX2_writeCheapest 42 = .ok (.iload 6, 2) := by decide +kernel
theorem dX2_writeCheapest_44 : decode cX2_writeCheapest 44 = .ok (.iload 7, 2) := by decide +kernel
theorem dX2_writeCheapest_46 : decode cX2_writeCheapest 46 = .ok (.invokevirtual 77, 3) := by decide +kernel
theorem dX2_writeCheapest_49 : decode cX2_writeCheapest 49 = .ok (.iload 4, 2) := by decide +kernel
theorem dX2_writeCheapest_51 : decode cX2_writeCheapest 51 = .ok (.iload 7, 2) := by decide +kernel
theorem dX2_writeCheapest_53 : decode cX2_writeCheapest 53 = .ok (.invokestatic 65, 3) := by decide +kernel
theorem dX2_writeCheapest_56 : decode cX2_writeCheapest 56 = .ok (.iconst (-1), 1) := by decide +kernel
theorem dX2_writeCheapest_57 : decode cX2_writeCheapest 57 = .ok (.ixor, 1) := by decide +kernel
theorem dX2_writeCheapest_58 : decode cX2_writeCheapest 58 = .ok (.iand, 1) := by decide +kernel
theorem dX2_writeCheapest_59 : decode cX2_writeCheapest 59 = .ok (.istore 4, 2) := by decide +kernel
theorem dX2_writeCheapest_61 : decode cX2_writeCheapest 61 = .ok (.iinc 6 1, 3) := by decide +kernel
theorem dX2_writeCheapest_64 : decode cX2_writeCheapest 64 = .ok (.goto (-40), 3) := by decide +kernel
theorem dX2_writeCheapest_67 : decode cX2_writeCheapest 67 = .ok (.return_, 1) := by decide +kernel
set_option maxRecDepth 20000 in
theorem ggX2_firstOfCheapest_X1_howMany : GoodIn wsX2_firstOfCheapest wsX1_howMany := goodIn_r _ [6, 7, 41, 42, 43, 44, 45, 46, 47, 48, 49, 50] (by decide +kernel) (by decide +kernel)
set_option maxRecDepth 20000 in
theorem gX2_firstOfCheapest_X1_howMany : GoodIn wsX2_firstOfCheapest (wsV RX2 27 RX1 yX1_howMany wsX1_howMany) := goodIn_app (goodIn_of _ (by decide +kernel)) ggX2_firstOfCheapest_X1_howMany
set_option maxRecDepth 20000 in
theorem ggX2_firstOfCheapest_X2_canGo : GoodIn wsX2_firstOfCheapest wsX2_canGo := goodIn_r _ [12, 13, 14, 15, 16, 38, 39, 40] (by decide +kernel) (by decide +kernel)
set_option maxRecDepth 20000 in
theorem gX2_firstOfCheapest_X2_canGo : GoodIn wsX2_firstOfCheapest (wsV RX2 40 RX2 yX2_canGo wsX2_canGo) := goodIn_app (goodIn_of _ (by decide +kernel)) ggX2_firstOfCheapest_X2_canGo
set_option maxRecDepth 20000 in
theorem ggX2_firstOfCheapest_X2_costFrom : GoodIn wsX2_firstOfCheapest wsX2_costFrom := goodIn_r _ [20, 21, 1, 22, 23, 24, 25, 26, 27, 28, 29, 30, 31, 5, 32, 33, 34, 35, 36, 15, 37, 38, 39, 40, 41, 42, 43, 44, 45, 46, 47, 48, 49, 50] (by decide +kernel) (by decide +kernel)
set_option maxRecDepth 20000 in
theorem gX2_firstOfCheapest_X2_costFrom : GoodIn wsX2_firstOfCheapest (wsV RX2 44 RX2 yX2_costFrom wsX2_costFrom) := goodIn_app (goodIn_of _ (by decide +kernel)) ggX2_firstOfCheapest_X2_costFrom
theorem dX2_firstOfCheapest_0 : decode cX2_firstOfCheapest 0 = .ok (.iconst 0, 1) := by decide +kernel
theorem dX2_firstOfCheapest_1 : decode cX2_firstOfCheapest 1 = .ok (.istore_n 3, 1) := by decide +kernel
theorem dX2_firstOfCheapest_2 : decode cX2_firstOfCheapest 2 = .ok (.iload_n 3, 1) := by decide +kernel
theorem dX2_firstOfCheapest_3 : decode cX2_firstOfCheapest 3 = .ok (.aload_n 1, 1) := by decide +kernel
theorem dX2_firstOfCheapest_4 : decode cX2_firstOfCheapest 4 = .ok (.invokevirtual 27, 3) := by decide +kernel
theorem dX2_firstOfCheapest_7 : decode cX2_firstOfCheapest 7 = .ok (.iconst 1, 1) := by decide +kernel
theorem dX2_firstOfCheapest_8 : decode cX2_firstOfCheapest 8 = .ok (.isub, 1) := by decide +kernel
theorem dX2_firstOfCheapest_9 : decode cX2_firstOfCheapest 9 = .ok (.if_icmp .ge 34, 3) := by decide +kernel
theorem dX2_firstOfCheapest_12 : decode cX2_firstOfCheapest 12 = .ok (.aload_n 0, 1) := by decide +kernel
theorem dX2_firstOfCheapest_13 : decode cX2_firstOfCheapest 13 = .ok (.iload_n 3, 1) := by decide +kernel
theorem dX2_firstOfCheapest_14 : decode cX2_firstOfCheapest 14 = .ok (.iload_n 2, 1) := by decide +kernel
theorem dX2_firstOfCheapest_15 : decode cX2_firstOfCheapest 15 = .ok (.invokevirtual 40, 3) := by decide +kernel
theorem dX2_firstOfCheapest_18 : decode cX2_firstOfCheapest 18 = .ok (.ifCond .eq 19, 3) := by decide +kernel
theorem dX2_firstOfCheapest_21 : decode cX2_firstOfCheapest 21 = .ok (.aload_n 0, 1) := by decide +kernel
theorem dX2_firstOfCheapest_22 : decode cX2_firstOfCheapest 22 = .ok (.aload_n 1, 1) := by decide +kernel
theorem dX2_firstOfCheapest_23 : decode cX2_firstOfCheapest 23 = .ok (.iload_n 3, 1) := by decide +kernel
theorem dX2_firstOfCheapest_24 : decode cX2_firstOfCheapest 24 = .ok (.iload_n 2, 1) := by decide +kernel
theorem dX2_firstOfCheapest_25 : decode cX2_firstOfCheapest 25 = .ok (.invokevirtual 44, 3) := by decide +kernel
theorem dX2_firstOfCheapest_28 : decode cX2_firstOfCheapest 28 = .ok (.aload_n 0, 1) := by decide +kernel
theorem dX2_firstOfCheapest_29 : decode cX2_firstOfCheapest 29 = .ok (.getfield 9, 3) := by decide +kernel
theorem dX2_firstOfCheapest_32 : decode cX2_firstOfCheapest 32 = .ok (.iload_n 2, 1) := by decide +kernel
theorem dX2_firstOfCheapest_33 : decode cX2_firstOfCheapest 33 = .ok (.iaload, 1) := by decide +kernel
theorem dX2_firstOfCheapest_34 : decode cX2_firstOfCheapest 34 = .ok (.if_icmp .eq 9, 3) := by decide +kernel
theorem dX2_firstOfCheapest_37 : decode cX2_firstOfCheapest 37 = .ok (.iinc 3 1, 3) := by decide +kernel
theorem dX2_firstOfCheapest_40 : decode cX2_firstOfCheapest 40 = .ok (.goto (-38), 3) := by decide +kernel
theorem dX2_firstOfCheapest_43 : decode cX2_firstOfCheapest 43 = .ok (.iload_n 3, 1) := by decide +kernel
theorem dX2_firstOfCheapest_44 : decode cX2_firstOfCheapest 44 = .ok (.ireturn, 1) := by decide +kernel
set_option maxRecDepth 20000 in
theorem ggX2_howManyOrders_X1_howMany : GoodIn wsX2_howManyOrders wsX1_howMany := goodIn_r _ [9, 10, 43, 44, 45, 46, 47, 48, 49, 50, 51, 52] (by decide +kernel) (by decide +kernel)
set_option maxRecDepth 20000 in
theorem gX2_howManyOrders_X1_howMany : GoodIn wsX2_howManyOrders (wsV RX2 27 RX1 yX1_howMany wsX1_howMany) := goodIn_app (goodIn_of _ (by decide +kernel)) ggX2_howManyOrders_X1_howMany
set_option maxRecDepth 20000 in
theorem ggX2_howManyOrders_X1_isSaid : GoodIn wsX2_howManyOrders wsX1_isSaid := goodIn_r _ [14, 15, 16, 17, 18, 43, 44, 45, 46, 47, 48, 49, 50, 51, 52] (by decide +kernel) (by decide +kernel)
set_option maxRecDepth 20000 in
theorem gX2_howManyOrders_X1_isSaid : GoodIn wsX2_howManyOrders (wsV RX2 80 RX1 yX1_isSaid wsX1_isSaid) := goodIn_app (goodIn_of _ (by decide +kernel)) ggX2_howManyOrders_X1_isSaid
set_option maxRecDepth 20000 in
theorem ggX2_howManyOrders_X7_bit : GoodIn wsX2_howManyOrders wsX7_bit := goodIn_r _ [20] (by decide +kernel) (by decide +kernel)
set_option maxRecDepth 20000 in
theorem gX2_howManyOrders_X7_bit_n65 : GoodIn wsX2_howManyOrders (wsX7_bit) := ggX2_howManyOrders_X7_bit
set_option maxRecDepth 20000 in
theorem ggX2_howManyOrders_X1_hasToGoWith : GoodIn wsX2_howManyOrders wsX1_hasToGoWith := goodIn_r _ [24, 10, 25, 26, 12, 13, 8, 14, 15, 16, 17, 18, 27, 28, 29, 30, 31, 32, 33, 34, 35, 19, 20, 43, 44, 45, 46, 47, 48, 49, 50, 51, 52] (by decide +kernel) (by decide +kernel)
set_option maxRecDepth 20000 in
theorem gX2_howManyOrders_X1_hasToGoWith : GoodIn wsX2_howManyOrders (wsV RX2 84 RX1 yX1_hasToGoWith wsX1_hasToGoWith) := goodIn_app (goodIn_of _ (by decide +kernel)) ggX2_howManyOrders_X1_hasToGoWith
set_option maxRecDepth 20000 in
theorem ggX2_howManyOrders_J6_bitCount_0f7a4 : GoodIn wsX2_howManyOrders wsJ6_bitCount_0f7a4 := goodIn_r _ [39, 40, 41, 42] (by decide +kernel) (by decide +kernel)
set_option maxRecDepth 20000 in
theorem gX2_howManyOrders_J6_bitCount_0f7a4 : GoodIn wsX2_howManyOrders (va_wsS RX2 57 yJ6_bitCount_0f7a4 wsJ6_bitCount_0f7a4) := goodIn_app (goodIn_of _ (by decide +kernel)) ggX2_howManyOrders_J6_bitCount_0f7a4
theorem dX2_howManyOrders_0 : decode cX2_howManyOrders 0 = .ok (.lconst 1, 1) := by decide +kernel
theorem dX2_howManyOrders_1 : decode cX2_howManyOrders 1 = .ok (.lstore_n 2, 1) := by decide +kernel
theorem dX2_howManyOrders_2 : decode cX2_howManyOrders 2 = .ok (.lconst 1, 1) := by decide +kernel
theorem dX2_howManyOrders_3 : decode cX2_howManyOrders 3 = .ok (.lstore 4, 2) := by decide +kernel
theorem dX2_howManyOrders_5 : decode cX2_howManyOrders 5 = .ok (.iconst 0, 1) := by decide +kernel
theorem dX2_howManyOrders_6 : decode cX2_howManyOrders 6 = .ok (.istore 6, 2) := by decide +kernel
theorem dX2_howManyOrders_8 : decode cX2_howManyOrders 8 = .ok (.iconst 0, 1) := by decide +kernel
theorem dX2_howManyOrders_9 : decode cX2_howManyOrders 9 = .ok (.istore 7, 2) := by decide +kernel
theorem dX2_howManyOrders_11 : decode cX2_howManyOrders 11 = .ok (.iload 7, 2) := by decide +kernel
theorem dX2_howManyOrders_13 : decode cX2_howManyOrders 13 = .ok (.aload_n 1, 1) := by decide +kernel
theorem dX2_howManyOrders_14 : decode cX2_howManyOrders 14 = .ok (.invokevirtual 27, 3) := by decide +kernel
theorem dX2_howManyOrders_17 : decode cX2_howManyOrders 17 = .ok (.if_icmp .ge 49, 3) := by decide +kernel
theorem dX2_howManyOrders_20 : decode cX2_howManyOrders 20 = .ok (.aload_n 1, 1) := by decide +kernel
theorem dX2_howManyOrders_21 : decode cX2_howManyOrders 21 = .ok (.iload 7, 2) := by decide +kernel
theorem dX2_howManyOrders_23 : decode cX2_howManyOrders 23 = .ok (.invokevirtual 80, 3) := by decide +kernel
theorem dX2_howManyOrders_26 : decode cX2_howManyOrders 26 = .ok (.ifCond .eq 34, 3) := by decide +kernel
theorem dX2_howManyOrders_29 : decode cX2_howManyOrders 29 = .ok (.iinc 6 1, 3) := by decide +kernel
theorem dX2_howManyOrders_32 : decode cX2_howManyOrders 32 = .ok (.lload_n 2, 1) := by decide +kernel
theorem dX2_howManyOrders_33 : decode cX2_howManyOrders 33 = .ok (.iload 6, 2) := by decide +kernel
theorem dX2_howManyOrders_35 : decode cX2_howManyOrders 35 = .ok (.i2l, 1) := by decide +kernel
theorem dX2_howManyOrders_36 : decode cX2_howManyOrders 36 = .ok (.lmul, 1) := by decide +kernel
theorem dX2_howManyOrders_37 : decode cX2_howManyOrders 37 = .ok (.lstore_n 2, 1) := by decide +kernel
theorem dX2_howManyOrders_38 : decode cX2_howManyOrders 38 = .ok (.lload 4, 2) := by decide +kernel
theorem dX2_howManyOrders_40 : decode cX2_howManyOrders 40 = .ok (.iconst 1, 1) := by decide +kernel
theorem dX2_howManyOrders_41 : decode cX2_howManyOrders 41 = .ok (.aload_n 1, 1) := by decide +kernel
theorem dX2_howManyOrders_42 : decode cX2_howManyOrders 42 = .ok (.iload 7, 2) := by decide +kernel
theorem dX2_howManyOrders_44 : decode cX2_howManyOrders 44 = .ok (.invokestatic 65, 3) := by decide +kernel
theorem dX2_howManyOrders_47 : decode cX2_howManyOrders 47 = .ok (.invokevirtual 84, 3) := by decide +kernel
theorem dX2_howManyOrders_50 : decode cX2_howManyOrders 50 = .ok (.invokestatic 57, 3) := by decide +kernel
theorem dX2_howManyOrders_53 : decode cX2_howManyOrders 53 = .ok (.invokestatic 87, 3) := by decide +kernel
theorem dX2_howManyOrders_56 : decode cX2_howManyOrders 56 = .ok (.i2l, 1) := by decide +kernel
theorem dX2_howManyOrders_57 : decode cX2_howManyOrders 57 = .ok (.lmul, 1) := by decide +kernel
theorem dX2_howManyOrders_58 : decode cX2_howManyOrders 58 = .ok (.lstore 4, 2) := by decide +kernel
theorem dX2_howManyOrders_60 : decode cX2_howManyOrders 60 = .ok (.iinc 7 1, 3) := by decide +kernel
theorem dX2_howManyOrders_63 : decode cX2_howManyOrders 63 = .ok (.goto (-52), 3) := by decide +kernel
theorem dX2_howManyOrders_66 : decode cX2_howManyOrders 66 = .ok (.lload_n 2, 1) := by decide +kernel
theorem dX2_howManyOrders_67 : decode cX2_howManyOrders 67 = .ok (.lload 4, 2) := by decide +kernel
theorem dX2_howManyOrders_69 : decode cX2_howManyOrders 69 = .ok (.ldiv, 1) := by decide +kernel
theorem dX2_howManyOrders_70 : decode cX2_howManyOrders 70 = .ok (.lreturn, 1) := by decide +kernel
set_option maxRecDepth 20000 in
theorem ggX3_readInto_X1_empty : GoodIn wsX3_readInto wsX1_empty := goodIn_r _ [5, 6, 7, 8, 106, 107, 108, 109, 110, 111, 112, 113, 114, 115] (by decide +kernel) (by decide +kernel)
set_option maxRecDepth 20000 in
theorem gX3_readInto_X1_empty : GoodIn wsX3_readInto (wsV RX3 9 RX1 yX1_empty wsX1_empty) := goodIn_app (goodIn_of _ (by decide +kernel)) ggX3_readInto_X1_empty
set_option maxRecDepth 20000 in
theorem ggX3_readInto_X5_sizeOf : GoodIn wsX3_readInto wsX5_sizeOf := goodIn_r _ [13, 14, 116, 117, 118] (by decide +kernel) (by decide +kernel)
set_option maxRecDepth 20000 in
theorem gX3_readInto_X5_sizeOf : GoodIn wsX3_readInto (wsV RX3 14 RX5 yX5_sizeOf wsX5_sizeOf) := goodIn_app (goodIn_of _ (by decide +kernel)) ggX3_readInto_X5_sizeOf
set_option maxRecDepth 20000 in
theorem ggX3_readInto_X5_cell : GoodIn wsX3_readInto wsX5_cell := goodIn_r _ [18, 19, 20, 116, 117, 118] (by decide +kernel) (by decide +kernel)
set_option maxRecDepth 20000 in
theorem gX3_readInto_X5_cell : GoodIn wsX3_readInto (wsV RX3 20 RX5 yX5_cell wsX5_cell) := goodIn_app (goodIn_of _ (by decide +kernel)) ggX3_readInto_X5_cell
set_option maxRecDepth 20000 in
theorem ggX3_readInto_X3_readItem : GoodIn wsX3_readInto wsX3_readItem := goodIn_r _ [24, 25, 26, 27, 28, 29, 30, 31, 32, 33, 34, 35, 36, 37, 38, 39, 40, 41, 42, 43, 44, 45, 46, 47, 48, 49, 50, 51, 52, 53, 54, 55, 56, 57, 58, 59, 60, 61, 62, 63, 64, 65, 66, 67, 68, 69, 70, 71, 72, 73, 74, 75, 23, 76, 77, 78, 79, 12, 80, 14, 15, 16, 17, 18, 19, 20, 81, 82, 83, 4, 84, 6, 85, 86, 87, 88, 89, 90, 91, 92, 93, 94, 95, 96, 97, 98, 99, 100, 101, 7, 102, 103, 104, 105, 116, 117, 118, 106, 107, 108, 109, 110, 111, 112, 113, 114, 115] (by decide +kernel) (by decide +kernel)
set_option maxRecDepth 20000 in
theorem gX3_readInto_X3_readItem : GoodIn wsX3_readInto (va_wsS RX3 24 yX3_readItem wsX3_readItem) := goodIn_app (goodIn_of _ (by decide +kernel)) ggX3_readInto_X3_readItem
theorem dX3_readInto_0 : decode cX3_readInto 0 = .ok (.aload_n 0, 1) := by decide +kernel
theorem dX3_readInto_1 : decode cX3_readInto 1 = .ok (.invokevirtual 9, 3) := by decide +kernel
theorem dX3_readInto_4 : decode cX3_readInto 4 = .ok (.aload_n 1, 1) := by decide +kernel
theorem dX3_readInto_5 : decode cX3_readInto 5 = .ok (.iload_n 2, 1) := by decide +kernel
theorem dX3_readInto_6 : decode cX3_readInto 6 = .ok (.invokevirtual 14, 3) := by decide +kernel
theorem dX3_readInto_9 : decode cX3_readInto 9 = .ok (.istore_n 3, 1) := by decide +kernel
theorem dX3_readInto_10 : decode cX3_readInto 10 = .ok (.iconst 0, 1) := by decide +kernel
theorem dX3_readInto_11 : decode cX3_readInto 11 = .ok (.istore 4, 2) := by decide +kernel
theorem dX3_readInto_13 : decode cX3_readInto 13 = .ok (.iload 4, 2) := by decide +kernel
theorem dX3_readInto_15 : decode cX3_readInto 15 = .ok (.iload_n 3, 1) := by decide +kernel
theorem dX3_readInto_16 : decode cX3_readInto 16 = .ok (.if_icmp .ge 47, 3) := by decide +kernel
theorem dX3_readInto_19 : decode cX3_readInto 19 = .ok (.aload_n 1, 1) := by decide +kernel
theorem dX3_readInto_20 : decode cX3_readInto 20 = .ok (.iload_n 2, 1) := by decide +kernel
theorem dX3_readInto_21 : decode cX3_readInto 21 = .ok (.iload 4, 2) := by decide +kernel
theorem dX3_readInto_23 : decode cX3_readInto 23 = .ok (.invokevirtual 20, 3) := by decide +kernel
theorem dX3_readInto_26 : decode cX3_readInto 26 = .ok (.bipush 32, 2) := by decide +kernel
theorem dX3_readInto_28 : decode cX3_readInto 28 = .ok (.if_icmp .ne 9, 3) := by decide +kernel
theorem dX3_readInto_31 : decode cX3_readInto 31 = .ok (.iinc 4 1, 3) := by decide +kernel
theorem dX3_readInto_34 : decode cX3_readInto 34 = .ok (.goto (-21), 3) := by decide +kernel
theorem dX3_readInto_37 : decode cX3_readInto 37 = .ok (.aload_n 0, 1) := by decide +kernel
theorem dX3_readInto_38 : decode cX3_readInto 38 = .ok (.aload_n 1, 1) := by decide +kernel
theorem dX3_readInto_39 : decode cX3_readInto 39 = .ok (.iload_n 2, 1) := by decide +kernel
theorem dX3_readInto_40 : decode cX3_readInto 40 = .ok (.iload 4, 2) := by decide +kernel
theorem dX3_readInto_42 : decode cX3_readInto 42 = .ok (.invokestatic 24, 3) := by decide +kernel
theorem dX3_readInto_45 : decode cX3_readInto 45 = .ok (.istore 5, 2) := by decide +kernel
theorem dX3_readInto_47 : decode cX3_readInto 47 = .ok (.iload 5, 2) := by decide +kernel
theorem dX3_readInto_49 : decode cX3_readInto 49 = .ok (.bipush (-9), 2) := by decide +kernel
theorem dX3_readInto_51 : decode cX3_readInto 51 = .ok (.if_icmp .eq 6, 3) := by decide +kernel
theorem dX3_readInto_54 : decode cX3_readInto 54 = .ok (.iload 5, 2) := by decide +kernel
theorem dX3_readInto_56 : decode cX3_readInto 56 = .ok (.ireturn, 1) := by decide +kernel
theorem dX3_readInto_57 : decode cX3_readInto 57 = .ok (.iinc 4 6, 3) := by decide +kernel
theorem dX3_readInto_60 : decode cX3_readInto 60 = .ok (.goto (-47), 3) := by decide +kernel
theorem dX3_readInto_63 : decode cX3_readInto 63 = .ok (.bipush (-9), 2) := by decide +kernel
theorem dX3_readInto_65 : decode cX3_readInto 65 = .ok (.ireturn, 1) := by decide +kernel
set_option maxRecDepth 20000 in
theorem ggX3_readItem_J0_length_8abf5 : GoodIn wsX3_readItem wsJ0_length_8abf5 := goodIn_r _ [5, 6, 7, 8, 9, 4, 10, 11, 12] (by decide +kernel) (by decide +kernel)
set_option maxRecDepth 20000 in
theorem gX3_readItem_J0_length_8abf5 : GoodIn wsX3_readItem (wsV RX3 32 RJ0 yJ0_length_8abf5 wsJ0_length_8abf5) := goodIn_app (goodIn_of _ (by decide +kernel)) ggX3_readItem_J0_length_8abf5
set_option maxRecDepth 20000 in
theorem ggX3_readItem_J0_charAt_5068e : GoodIn wsX3_readItem wsJ0_charAt_5068e := goodIn_r _ [16, 6, 17, 18, 19, 4, 20, 11, 12, 21, 22, 23, 24, 25, 26, 27, 28, 29, 30, 31, 32, 33, 34, 35, 36, 37, 38, 39, 40, 41, 42, 43, 44, 45, 46, 47, 48, 49] (by decide +kernel) (by decide +kernel)
set_option maxRecDepth 20000 in
theorem gX3_readItem_J0_charAt_5068e : GoodIn wsX3_readItem (wsV RX3 38 RJ0 yJ0_charAt_5068e wsJ0_charAt_5068e) := goodIn_app (goodIn_of _ (by decide +kernel)) ggX3_readItem_J0_charAt_5068e
set_option maxRecDepth 20000 in
theorem ggX3_readItem_X3_signAt : GoodIn wsX3_readItem wsX3_signAt := goodIn_r _ [53, 54, 55, 56, 57, 58, 59, 60, 61, 62, 63, 64, 65, 94, 95, 96] (by decide +kernel) (by decide +kernel)
set_option maxRecDepth 20000 in
theorem gX3_readItem_X3_signAt : GoodIn wsX3_readItem (va_wsS RX3 42 yX3_signAt wsX3_signAt) := goodIn_app (goodIn_of _ (by decide +kernel)) ggX3_readItem_X3_signAt
set_option maxRecDepth 20000 in
theorem ggX3_readItem_X1_isFull : GoodIn wsX3_readItem wsX1_isFull := goodIn_r _ [70, 71, 97, 98, 99, 100, 101, 102, 103, 104, 105, 106] (by decide +kernel) (by decide +kernel)
set_option maxRecDepth 20000 in
theorem gX3_readItem_X1_isFull : GoodIn wsX3_readItem (wsV RX3 46 RX1 yX1_isFull wsX1_isFull) := goodIn_app (goodIn_of _ (by decide +kernel)) ggX3_readItem_X1_isFull
set_option maxRecDepth 20000 in
theorem ggX3_readItem_X3_figureAt : GoodIn wsX3_readItem wsX3_figureAt := goodIn_r _ [74, 50, 51, 52, 53, 54, 55, 56, 57, 58, 59, 60, 61, 62, 63, 64, 65, 94, 95, 96] (by decide +kernel) (by decide +kernel)
set_option maxRecDepth 20000 in
theorem gX3_readItem_X3_figureAt : GoodIn wsX3_readItem (va_wsS RX3 50 yX3_figureAt wsX3_figureAt) := goodIn_app (goodIn_of _ (by decide +kernel)) ggX3_readItem_X3_figureAt
set_option maxRecDepth 20000 in
theorem ggX3_readItem_X1_hasNumber : GoodIn wsX3_readItem wsX1_hasNumber := goodIn_r _ [78, 71, 97, 98, 99, 100, 101, 102, 103, 104, 105, 106] (by decide +kernel) (by decide +kernel)
set_option maxRecDepth 20000 in
theorem gX3_readItem_X1_hasNumber : GoodIn wsX3_readItem (wsV RX3 53 RX1 yX1_hasNumber wsX1_hasNumber) := goodIn_app (goodIn_of _ (by decide +kernel)) ggX3_readItem_X1_hasNumber
set_option maxRecDepth 20000 in
theorem ggX3_readItem_X1_add : GoodIn wsX3_readItem wsX1_add := goodIn_r _ [82, 83, 71, 84, 85, 86, 87, 88, 89, 90, 67, 68, 69, 70, 91, 92, 93, 97, 98, 99, 100, 101, 102, 103, 104, 105, 106] (by decide +kernel) (by decide +kernel)
set_option maxRecDepth 20000 in
theorem gX3_readItem_X1_add : GoodIn wsX3_readItem (wsV RX3 57 RX1 yX1_add wsX1_add) := goodIn_app (goodIn_of _ (by decide +kernel)) ggX3_readItem_X1_add
theorem dX3_readItem_0 : decode cX3_readItem 0 = .ok (.ldc 30, 2) := by decide +kernel
theorem dX3_readItem_2 : decode cX3_readItem 2 = .ok (.invokevirtual 32, 3) := by decide +kernel
theorem dX3_readItem_5 : decode cX3_readItem 5 = .ok (.iconst 1, 1) := by decide +kernel
theorem dX3_readItem_6 : decode cX3_readItem 6 = .ok (.isub, 1) := by decide +kernel
theorem dX3_readItem_7 : decode cX3_readItem 7 = .ok (.istore 4, 2) := by decide +kernel
theorem dX3_readItem_9 : decode cX3_readItem 9 = .ok (.iload 4, 2) := by decide +kernel
theorem dX3_readItem_11 : decode cX3_readItem 11 = .ok (.ifCond .lt 25, 3) := by decide +kernel
theorem dX3_readItem_14 : decode cX3_readItem 14 = .ok (.ldc 30, 2) := by decide +kernel
theorem dX3_readItem_16 : decode cX3_readItem 16 = .ok (.iload 4, 2) := by decide +kernel
theorem dX3_readItem_18 : decode cX3_readItem 18 = .ok (.invokevirtual 38, 3) := by decide +kernel
theorem dX3_readItem_21 : decode cX3_readItem 21 = .ok (.aload_n 1, 1) := by decide +kernel
theorem dX3_readItem_22 : decode cX3_readItem 22 = .ok (.iload_n 2, 1) := by decide +kernel
theorem dX3_readItem_23 : decode cX3_readItem 23 = .ok (.iload_n 3, 1) := by decide +kernel
theorem dX3_readItem_24 : decode cX3_readItem 24 = .ok (.invokestatic 42, 3) := by decide +kernel
theorem dX3_readItem_27 : decode cX3_readItem 27 = .ok (.if_icmp .eq 9, 3) := by decide +kernel
theorem dX3_readItem_30 : decode cX3_readItem 30 = .ok (.iinc 4 (-1), 3) := by decide +kernel
theorem dX3_readItem_33 : decode cX3_readItem 33 = .ok (.goto (-24), 3) := by decide +kernel
theorem dX3_readItem_36 : decode cX3_readItem 36 = .ok (.iload 4, 2) := by decide +kernel
theorem dX3_readItem_38 : decode cX3_readItem 38 = .ok (.ifCond .lt 10, 3) := by decide +kernel
theorem dX3_readItem_41 : decode cX3_readItem 41 = .ok (.aload_n 0, 1) := by decide +kernel
theorem dX3_readItem_42 : decode cX3_readItem 42 = .ok (.invokevirtual 46, 3) := by decide +kernel
theorem dX3_readItem_45 : decode cX3_readItem 45 = .ok (.ifCond .eq 5, 3) := by decide +kernel
theorem dX3_readItem_48 : decode cX3_readItem 48 = .ok (.iload_n 3, 1) := by decide +kernel
theorem dX3_readItem_49 : decode cX3_readItem 49 = .ok (.ireturn, 1) := by decide +kernel
theorem dX3_readItem_50 : decode cX3_readItem 50 = .ok (.aload_n 1, 1) := by decide +kernel
theorem dX3_readItem_51 : decode cX3_readItem 51 = .ok (.iload_n 2, 1) := by decide +kernel
theorem dX3_readItem_52 : decode cX3_readItem 52 = .ok (.iload_n 3, 1) := by decide +kernel
theorem dX3_readItem_53 : decode cX3_readItem 53 = .ok (.iconst 1, 1) := by decide +kernel
theorem dX3_readItem_54 : decode cX3_readItem 54 = .ok (.iadd, 1) := by decide +kernel
theorem dX3_readItem_55 : decode cX3_readItem 55 = .ok (.invokestatic 50, 3) := by decide +kernel
theorem dX3_readItem_58 : decode cX3_readItem 58 = .ok (.istore 5, 2) := by decide +kernel
theorem dX3_readItem_60 : decode cX3_readItem 60 = .ok (.iload 5, 2) := by decide +kernel
theorem dX3_readItem_62 : decode cX3_readItem 62 = .ok (.ifCond .lt 10, 3) := by decide +kernel
theorem dX3_readItem_65 : decode cX3_readItem 65 = .ok (.iload 5, 2) := by decide +kernel
theorem dX3_readItem_67 : decode cX3_readItem 67 = .ok (.bipush 6, 2) := by decide +kernel
theorem dX3_readItem_69 : decode cX3_readItem 69 = .ok (.if_icmp .lt 7, 3) := by decide +kernel
theorem dX3_readItem_72 : decode cX3_readItem 72 = .ok (.iload_n 3, 1) := by decide +kernel
theorem dX3_readItem_73 : decode cX3_readItem 73 = .ok (.iconst 1, 1) := by decide +kernel
theorem dX3_readItem_74 : decode cX3_readItem 74 = .ok (.iadd, 1) := by decide +kernel
theorem dX3_readItem_75 : decode cX3_readItem 75 = .ok (.ireturn, 1) := by decide +kernel
theorem dX3_readItem_76 : decode cX3_readItem 76 = .ok (.aload_n 1, 1) := by decide +kernel
theorem dX3_readItem_77 : decode cX3_readItem 77 = .ok (.iload_n 2, 1) := by decide +kernel
theorem dX3_readItem_78 : decode cX3_readItem 78 = .ok (.iload_n 3, 1) := by decide +kernel
theorem dX3_readItem_79 : decode cX3_readItem 79 = .ok (.iconst 2, 1) := by decide +kernel
theorem dX3_readItem_80 : decode cX3_readItem 80 = .ok (.iadd, 1) := by decide +kernel
theorem dX3_readItem_81 : decode cX3_readItem 81 = .ok (.invokestatic 50, 3) := by decide +kernel
theorem dX3_readItem_84 : decode cX3_readItem 84 = .ok (.istore 6, 2) := by decide +kernel
theorem dX3_readItem_86 : decode cX3_readItem 86 = .ok (.iload 6, 2) := by decide +kernel
theorem dX3_readItem_88 : decode cX3_readItem 88 = .ok (.ifCond .lt 17, 3) := by decide +kernel
theorem dX3_readItem_91 : decode cX3_readItem 91 = .ok (.iload 6, 2) := by decide +kernel
theorem dX3_readItem_93 : decode cX3_readItem 93 = .ok (.bipush 6, 2) := by decide +kernel
theorem dX3_readItem_95 : decode cX3_readItem 95 = .ok (.if_icmp .ge 10, 3) := by decide +kernel
theorem dX3_readItem_98 : decode cX3_readItem 98 = .ok (.iload 6, 2) := by decide +kernel
theorem dX3_readItem_100 : decode cX3_readItem 100 = .ok (.iload 5, 2) := by decide +kernel
theorem dX3_readItem_102 : decode cX3_readItem 102 = .ok (.if_icmp .ne 7, 3) := by decide +kernel
theorem dX3_readItem_105 : decode cX3_readItem 105 = .ok (.iload_n 3, 1) := by decide +kernel
theorem dX3_readItem_106 : decode cX3_readItem 106 = .ok (.iconst 2, 1) := by decide +kernel
theorem dX3_readItem_107 : decode cX3_readItem 107 = .ok (.iadd, 1) := by decide +kernel
theorem dX3_readItem_108 : decode cX3_readItem 108 = .ok (.ireturn, 1) := by decide +kernel
theorem dX3_readItem_109 : decode cX3_readItem 109 = .ok (.aload_n 1, 1) := by decide +kernel
theorem dX3_readItem_110 : decode cX3_readItem 110 = .ok (.iload_n 2, 1) := by decide +kernel
theorem dX3_readItem_111 : decode cX3_readItem 111 = .ok (.iload_n 3, 1) := by decide +kernel
theorem dX3_readItem_112 : decode cX3_readItem 112 = .ok (.iconst 3, 1) := by decide +kernel
theorem dX3_readItem_113 : decode cX3_readItem 113 = .ok (.iadd, 1) := by decide +kernel
theorem dX3_readItem_114 : decode cX3_readItem 114 = .ok (.invokestatic 50, 3) := by decide +kernel
theorem dX3_readItem_117 : decode cX3_readItem 117 = .ok (.istore 7, 2) := by decide +kernel
theorem dX3_readItem_119 : decode cX3_readItem 119 = .ok (.iload 7, 2) := by decide +kernel
theorem dX3_readItem_121 : decode cX3_readItem 121 = .ok (.ifCond .lt 10, 3) := by decide +kernel
theorem dX3_readItem_124 : decode cX3_readItem 124 = .ok (.iload 7, 2) := by decide +kernel
theorem dX3_readItem_126 : decode cX3_readItem 126 = .ok (.bipush 6, 2) := by decide +kernel
theorem dX3_readItem_128 : decode cX3_readItem 128 = .ok (.if_icmp .lt 7, 3) := by decide +kernel
theorem dX3_readItem_131 : decode cX3_readItem 131 = .ok (.iload_n 3, 1) := by decide +kernel
theorem dX3_readItem_132 : decode cX3_readItem 132 = .ok (.iconst 3, 1) := by decide +kernel
theorem dX3_readItem_133 : decode cX3_readItem 133 = .ok (.iadd, 1) := by decide +kernel
theorem dX3_readItem_134 : decode cX3_readItem 134 = .ok (.ireturn, 1) := by decide +kernel
theorem dX3_readItem_135 : decode cX3_readItem 135 = .ok (.aload_n 1, 1) := by decide +kernel
theorem dX3_readItem_136 : decode cX3_readItem 136 = .ok (.iload_n 2, 1) := by decide +kernel
theorem dX3_readItem_137 : decode cX3_readItem 137 = .ok (.iload_n 3, 1) := by decide +kernel
theorem dX3_readItem_138 : decode cX3_readItem 138 = .ok (.iconst 4, 1) := by decide +kernel
theorem dX3_readItem_139 : decode cX3_readItem 139 = .ok (.iadd, 1) := by decide +kernel
theorem dX3_readItem_140 : decode cX3_readItem 140 = .ok (.invokestatic 50, 3) := by decide +kernel
theorem dX3_readItem_143 : decode cX3_readItem 143 = .ok (.istore 8, 2) := by decide +kernel
theorem dX3_readItem_145 : decode cX3_readItem 145 = .ok (.iload 8, 2) := by decide +kernel
theorem dX3_readItem_147 : decode cX3_readItem 147 = .ok (.iconst 1, 1) := by decide +kernel
theorem dX3_readItem_148 : decode cX3_readItem 148 = .ok (.if_icmp .lt 10, 3) := by decide +kernel
theorem dX3_readItem_151 : decode cX3_readItem 151 = .ok (.iload 8, 2) := by decide +kernel
theorem dX3_readItem_153 : decode cX3_readItem 153 = .ok (.bipush 9, 2) := by decide +kernel
theorem dX3_readItem_155 : decode cX3_readItem 155 = .ok (.if_icmp .le 7, 3) := by decide +kernel
theorem dX3_readItem_158 : decode cX3_readItem 158 = .ok (.iload_n 3, 1) := by decide +kernel
theorem dX3_readItem_159 : decode cX3_readItem 159 = .ok (.iconst 4, 1) := by decide +kernel
theorem dX3_readItem_160 : decode cX3_readItem 160 = .ok (.iadd, 1) := by decide +kernel
theorem dX3_readItem_161 : decode cX3_readItem 161 = .ok (.ireturn, 1) := by decide +kernel
theorem dX3_readItem_162 : decode cX3_readItem 162 = .ok (.aload_n 1, 1) := by decide +kernel
theorem dX3_readItem_163 : decode cX3_readItem 163 = .ok (.iload_n 2, 1) := by decide +kernel
theorem dX3_readItem_164 : decode cX3_readItem 164 = .ok (.iload_n 3, 1) := by decide +kernel
theorem dX3_readItem_165 : decode cX3_readItem 165 = .ok (.iconst 5, 1) := by decide +kernel
theorem dX3_readItem_166 : decode cX3_readItem 166 = .ok (.iadd, 1) := by decide +kernel
theorem dX3_readItem_167 : decode cX3_readItem 167 = .ok (.invokestatic 42, 3) := by decide +kernel
theorem dX3_readItem_170 : decode cX3_readItem 170 = .ok (.istore 9, 2) := by decide +kernel
theorem dX3_readItem_172 : decode cX3_readItem 172 = .ok (.iload 9, 2) := by decide +kernel
theorem dX3_readItem_174 : decode cX3_readItem 174 = .ok (.bipush 45, 2) := by decide +kernel
theorem dX3_readItem_176 : decode cX3_readItem 176 = .ok (.if_icmp .eq 19, 3) := by decide +kernel
theorem dX3_readItem_179 : decode cX3_readItem 179 = .ok (.aload_n 0, 1) := by decide +kernel
theorem dX3_readItem_180 : decode cX3_readItem 180 = .ok (.iload 9, 2) := by decide +kernel
theorem dX3_readItem_182 : decode cX3_readItem 182 = .ok (.bipush 65, 2) := by decide +kernel
theorem dX3_readItem_184 : decode cX3_readItem 184 = .ok (.isub, 1) := by decide +kernel
theorem dX3_readItem_185 : decode cX3_readItem 185 = .ok (.invokevirtual 53, 3) := by decide +kernel
theorem dX3_readItem_188 : decode cX3_readItem 188 = .ok (.ifCond .ne 7, 3) := by decide +kernel
theorem dX3_readItem_191 : decode cX3_readItem 191 = .ok (.iload_n 3, 1) := by decide +kernel
theorem dX3_readItem_192 : decode cX3_readItem 192 = .ok (.iconst 5, 1) := by decide +kernel
theorem dX3_readItem_193 : decode cX3_readItem 193 = .ok (.iadd, 1) := by decide +kernel
theorem dX3_readItem_194 : decode cX3_readItem 194 = .ok (.ireturn, 1) := by decide +kernel
theorem dX3_readItem_195 : decode cX3_readItem 195 = .ok (.aload_n 0, 1) := by decide +kernel
theorem dX3_readItem_196 : decode cX3_readItem 196 = .ok (.iload 4, 2) := by decide +kernel
theorem dX3_readItem_198 : decode cX3_readItem 198 = .ok (.iload 5, 2) := by decide +kernel
theorem dX3_readItem_200 : decode cX3_readItem 200 = .ok (.iload 6, 2) := by decide +kernel
theorem dX3_readItem_202 : decode cX3_readItem 202 = .ok (.iload 7, 2) := by decide +kernel
theorem dX3_readItem_204 : decode cX3_readItem 204 = .ok (.iload 8, 2) := by decide +kernel
theorem dX3_readItem_206 : decode cX3_readItem 206 = .ok (.iload 9, 2) := by decide +kernel
theorem dX3_readItem_208 : decode cX3_readItem 208 = .ok (.bipush 45, 2) := by decide +kernel
theorem dX3_readItem_210 : decode cX3_readItem 210 = .ok (.if_icmp .ne 8, 3) := by decide +kernel
theorem dX3_readItem_213 : decode cX3_readItem 213 = .ok (.bipush (-9), 2) := by decide +kernel
theorem dX3_readItem_215 : decode cX3_readItem 215 = .ok (.goto 8, 3) := by decide +kernel
theorem dX3_readItem_218 : decode cX3_readItem 218 = .ok (.iload 9, 2) := by decide +kernel
theorem dX3_readItem_220 : decode cX3_readItem 220 = .ok (.bipush 65, 2) := by decide +kernel
theorem dX3_readItem_222 : decode cX3_readItem 222 = .ok (.isub, 1) := by decide +kernel
theorem dX3_readItem_223 : decode cX3_readItem 223 = .ok (.invokevirtual 57, 3) := by decide +kernel
theorem dX3_readItem_226 : decode cX3_readItem 226 = .ok (.bipush (-9), 2) := by decide +kernel
theorem dX3_readItem_228 : decode cX3_readItem 228 = .ok (.ireturn, 1) := by decide +kernel
set_option maxRecDepth 20000 in
theorem ggX3_figureAt_X3_signAt : GoodIn wsX3_figureAt wsX3_signAt := goodIn_r _ [4, 5, 6, 7, 8, 9, 10, 11, 12, 13, 14, 15, 16, 17, 18, 19] (by decide +kernel) (by decide +kernel)
set_option maxRecDepth 20000 in
theorem gX3_figureAt_X3_signAt : GoodIn wsX3_figureAt (va_wsS RX3 42 yX3_signAt wsX3_signAt) := goodIn_app (goodIn_of _ (by decide +kernel)) ggX3_figureAt_X3_signAt
theorem dX3_figureAt_0 : decode cX3_figureAt 0 = .ok (.aload_n 0, 1) := by decide +kernel
theorem dX3_figureAt_1 : decode cX3_figureAt 1 = .ok (.iload_n 1, 1) := by decide +kernel
theorem dX3_figureAt_2 : decode cX3_figureAt 2 = .ok (.iload_n 2, 1) := by decide +kernel
theorem dX3_figureAt_3 : decode cX3_figureAt 3 = .ok (.invokestatic 42, 3) := by decide +kernel
theorem dX3_figureAt_6 : decode cX3_figureAt 6 = .ok (.bipush 48, 2) := by decide +kernel
theorem dX3_figureAt_8 : decode cX3_figureAt 8 = .ok (.isub, 1) := by decide +kernel
theorem dX3_figureAt_9 : decode cX3_figureAt 9 = .ok (.istore_n 3, 1) := by decide +kernel
theorem dX3_figureAt_10 : decode cX3_figureAt 10 = .ok (.iload_n 3, 1) := by decide +kernel
theorem dX3_figureAt_11 : decode cX3_figureAt 11 = .ok (.ifCond .lt 13, 3) := by decide +kernel
theorem dX3_figureAt_14 : decode cX3_figureAt 14 = .ok (.iload_n 3, 1) := by decide +kernel
theorem dX3_figureAt_15 : decode cX3_figureAt 15 = .ok (.bipush 9, 2) := by decide +kernel
theorem dX3_figureAt_17 : decode cX3_figureAt 17 = .ok (.if_icmp .gt 7, 3) := by decide +kernel
theorem dX3_figureAt_20 : decode cX3_figureAt 20 = .ok (.iload_n 3, 1) := by decide +kernel
theorem dX3_figureAt_21 : decode cX3_figureAt 21 = .ok (.goto 4, 3) := by decide +kernel
theorem dX3_figureAt_24 : decode cX3_figureAt 24 = .ok (.iconst (-1), 1) := by decide +kernel
theorem dX3_figureAt_25 : decode cX3_figureAt 25 = .ok (.ireturn, 1) := by decide +kernel
set_option maxRecDepth 20000 in
theorem ggX3_signAt_X5_hasPlace : GoodIn wsX3_signAt wsX5_hasPlace := goodIn_r _ [5, 6, 13, 14, 15] (by decide +kernel) (by decide +kernel)
set_option maxRecDepth 20000 in
theorem gX3_signAt_X5_hasPlace : GoodIn wsX3_signAt (wsV RX3 61 RX5 yX5_hasPlace wsX5_hasPlace) := goodIn_app (goodIn_of _ (by decide +kernel)) ggX3_signAt_X5_hasPlace
set_option maxRecDepth 20000 in
theorem ggX3_signAt_X5_cell : GoodIn wsX3_signAt wsX5_cell := goodIn_r _ [10, 11, 12, 13, 14, 15] (by decide +kernel) (by decide +kernel)
set_option maxRecDepth 20000 in
theorem gX3_signAt_X5_cell : GoodIn wsX3_signAt (wsV RX3 20 RX5 yX5_cell wsX5_cell) := goodIn_app (goodIn_of _ (by decide +kernel)) ggX3_signAt_X5_cell
theorem dX3_signAt_0 : decode cX3_signAt 0 = .ok (.aload_n 0, 1) := by decide +kernel
theorem dX3_signAt_1 : decode cX3_signAt 1 = .ok (.iload_n 1, 1) := by decide +kernel
theorem dX3_signAt_2 : decode cX3_signAt 2 = .ok (.iload_n 2, 1) := by decide +kernel
theorem dX3_signAt_3 : decode cX3_signAt 3 = .ok (.invokevirtual 61, 3) := by decide +kernel
theorem dX3_signAt_6 : decode cX3_signAt 6 = .ok (.ifCond .eq 12, 3) := by decide +kernel
theorem dX3_signAt_9 : decode cX3_signAt 9 = .ok (.aload_n 0, 1) := by decide +kernel
theorem dX3_signAt_10 : decode cX3_signAt 10 = .ok (.iload_n 1, 1) := by decide +kernel
theorem dX3_signAt_11 : decode cX3_signAt 11 = .ok (.iload_n 2, 1) := by decide +kernel
theorem dX3_signAt_12 : decode cX3_signAt 12 = .ok (.invokevirtual 20, 3) := by decide +kernel
theorem dX3_signAt_15 : decode cX3_signAt 15 = .ok (.goto 6, 3) := by decide +kernel
theorem dX3_signAt_18 : decode cX3_signAt 18 = .ok (.sipush 1000, 3) := by decide +kernel
theorem dX3_signAt_21 : decode cX3_signAt 21 = .ok (.ireturn, 1) := by decide +kernel
theorem dX4_init_0 : decode cX4_init 0 = .ok (.aload_n 0, 1) := by decide +kernel
theorem dX4_init_1 : decode cX4_init 1 = .ok (.invokespecial 1, 3) := by decide +kernel
theorem dX4_init_4 : decode cX4_init 4 = .ok (.aload_n 0, 1) := by decide +kernel
theorem dX4_init_5 : decode cX4_init 5 = .ok (.lconst 0, 1) := by decide +kernel
theorem dX4_init_6 : decode cX4_init 6 = .ok (.putfield 7, 3) := by decide +kernel
theorem dX4_init_9 : decode cX4_init 9 = .ok (.aload_n 0, 1) := by decide +kernel
theorem dX4_init_10 : decode cX4_init 10 = .ok (.lconst 1, 1) := by decide +kernel
theorem dX4_init_11 : decode cX4_init 11 = .ok (.putfield 13, 3) := by decide +kernel
theorem dX4_init_14 : decode cX4_init 14 = .ok (.return_, 1) := by decide +kernel
set_option maxRecDepth 20000 in
theorem ggX4_tell_X4_commonOf : GoodIn wsX4_tell wsX4_commonOf := goodIn_r _ [10] (by decide +kernel) (by decide +kernel)
set_option maxRecDepth 20000 in
theorem gX4_tell_X4_commonOf : GoodIn wsX4_tell (va_wsS RX4 16 yX4_commonOf wsX4_commonOf) := goodIn_app (goodIn_of _ (by decide +kernel)) ggX4_tell_X4_commonOf
theorem dX4_tell_0 : decode cX4_tell 0 = .ok (.lconst 1, 1) := by decide +kernel
theorem dX4_tell_1 : decode cX4_tell 1 = .ok (.lload_n 1, 1) := by decide +kernel
theorem dX4_tell_2 : decode cX4_tell 2 = .ok (.lload_n 3, 1) := by decide +kernel
theorem dX4_tell_3 : decode cX4_tell 3 = .ok (.invokestatic 16, 3) := by decide +kernel
theorem dX4_tell_6 : decode cX4_tell 6 = .ok (.invokestatic 20, 3) := by decide +kernel
theorem dX4_tell_9 : decode cX4_tell 9 = .ok (.lstore 5, 2) := by decide +kernel
theorem dX4_tell_11 : decode cX4_tell 11 = .ok (.aload_n 0, 1) := by decide +kernel
theorem dX4_tell_12 : decode cX4_tell 12 = .ok (.lload_n 1, 1) := by decide +kernel
theorem dX4_tell_13 : decode cX4_tell 13 = .ok (.lload 5, 2) := by decide +kernel
theorem dX4_tell_15 : decode cX4_tell 15 = .ok (.ldiv, 1) := by decide +kernel
theorem dX4_tell_16 : decode cX4_tell 16 = .ok (.putfield 7, 3) := by decide +kernel
theorem dX4_tell_19 : decode cX4_tell 19 = .ok (.aload_n 0, 1) := by decide +kernel
theorem dX4_tell_20 : decode cX4_tell 20 = .ok (.lload_n 3, 1) := by decide +kernel
theorem dX4_tell_21 : decode cX4_tell 21 = .ok (.lload 5, 2) := by decide +kernel
theorem dX4_tell_23 : decode cX4_tell 23 = .ok (.ldiv, 1) := by decide +kernel
theorem dX4_tell_24 : decode cX4_tell 24 = .ok (.putfield 13, 3) := by decide +kernel
theorem dX4_tell_27 : decode cX4_tell 27 = .ok (.return_, 1) := by decide +kernel
theorem dX4_commonOf_0 : decode cX4_commonOf 0 = .ok (.lload_n 0, 1) := by decide +kernel
theorem dX4_commonOf_1 : decode cX4_commonOf 1 = .ok (.lstore 4, 2) := by decide +kernel
theorem dX4_commonOf_3 : decode cX4_commonOf 3 = .ok (.lload_n 2, 1) := by decide +kernel
theorem dX4_commonOf_4 : decode cX4_commonOf 4 = .ok (.lstore 6, 2) := by decide +kernel
theorem dX4_commonOf_6 : decode cX4_commonOf 6 = .ok (.iconst 0, 1) := by decide +kernel
theorem dX4_commonOf_7 : decode cX4_commonOf 7 = .ok (.istore 8, 2) := by decide +kernel
theorem dX4_commonOf_9 : decode cX4_commonOf 9 = .ok (.iload 8, 2) := by decide +kernel
theorem dX4_commonOf_11 : decode cX4_commonOf 11 = .ok (.sipush 200, 3) := by decide +kernel
theorem dX4_commonOf_14 : decode cX4_commonOf 14 = .ok (.if_icmp .ge 31, 3) := by decide +kernel
theorem dX4_commonOf_17 : decode cX4_commonOf 17 = .ok (.lload 6, 2) := by decide +kernel
theorem dX4_commonOf_19 : decode cX4_commonOf 19 = .ok (.lconst 0, 1) := by decide +kernel
theorem dX4_commonOf_20 : decode cX4_commonOf 20 = .ok (.lcmp, 1) := by decide +kernel
theorem dX4_commonOf_21 : decode cX4_commonOf 21 = .ok (.ifCond .eq 24, 3) := by decide +kernel
theorem dX4_commonOf_24 : decode cX4_commonOf 24 = .ok (.lload 4, 2) := by decide +kernel
theorem dX4_commonOf_26 : decode cX4_commonOf 26 = .ok (.lload 6, 2) := by decide +kernel
theorem dX4_commonOf_28 : decode cX4_commonOf 28 = .ok (.lrem, 1) := by decide +kernel
theorem dX4_commonOf_29 : decode cX4_commonOf 29 = .ok (.lstore 9, 2) := by decide +kernel
theorem dX4_commonOf_31 : decode cX4_commonOf 31 = .ok (.lload 6, 2) := by decide +kernel
theorem dX4_commonOf_33 : decode cX4_commonOf 33 = .ok (.lstore 4, 2) := by decide +kernel
theorem dX4_commonOf_35 : decode cX4_commonOf 35 = .ok (.lload 9, 2) := by decide +kernel
theorem dX4_commonOf_37 : decode cX4_commonOf 37 = .ok (.lstore 6, 2) := by decide +kernel
theorem dX4_commonOf_39 : decode cX4_commonOf 39 = .ok (.iinc 8 1, 3) := by decide +kernel
theorem dX4_commonOf_42 : decode cX4_commonOf 42 = .ok (.goto (-33), 3) := by decide +kernel
theorem dX4_commonOf_45 : decode cX4_commonOf 45 = .ok (.lload 4, 2) := by decide +kernel
theorem dX4_commonOf_47 : decode cX4_commonOf 47 = .ok (.lreturn, 1) := by decide +kernel
theorem dX4_top_0 : decode cX4_top 0 = .ok (.aload_n 0, 1) := by decide +kernel
theorem dX4_top_1 : decode cX4_top 1 = .ok (.getfield 7, 3) := by decide +kernel
theorem dX4_top_4 : decode cX4_top 4 = .ok (.lreturn, 1) := by decide +kernel
theorem dX4_bottom_0 : decode cX4_bottom 0 = .ok (.aload_n 0, 1) := by decide +kernel
theorem dX4_bottom_1 : decode cX4_bottom 1 = .ok (.getfield 13, 3) := by decide +kernel
theorem dX4_bottom_4 : decode cX4_bottom 4 = .ok (.lreturn, 1) := by decide +kernel
set_option maxRecDepth 20000 in
theorem ggX5_init_J7_fill_53178 : GoodIn wsX5_init wsJ7_fill_53178 := goodIn_r _ [11] (by decide +kernel) (by decide +kernel)
set_option maxRecDepth 20000 in
theorem gX5_init_J7_fill_53178 : GoodIn wsX5_init (va_wsS RX5 22 yJ7_fill_53178 wsJ7_fill_53178) := goodIn_app (goodIn_of _ (by decide +kernel)) ggX5_init_J7_fill_53178
theorem dX5_init_0 : decode cX5_init 0 = .ok (.aload_n 0, 1) := by decide +kernel
theorem dX5_init_1 : decode cX5_init 1 = .ok (.invokespecial 3, 3) := by decide +kernel
theorem dX5_init_4 : decode cX5_init 4 = .ok (.aload_n 0, 1) := by decide +kernel
theorem dX5_init_5 : decode cX5_init 5 = .ok (.iload_n 2, 1) := by decide +kernel
theorem dX5_init_6 : decode cX5_init 6 = .ok (.putfield 9, 3) := by decide +kernel
theorem dX5_init_9 : decode cX5_init 9 = .ok (.aload_n 0, 1) := by decide +kernel
theorem dX5_init_10 : decode cX5_init 10 = .ok (.iload_n 1, 1) := by decide +kernel
theorem dX5_init_11 : decode cX5_init 11 = .ok (.newarray .int, 2) := by decide +kernel
theorem dX5_init_13 : decode cX5_init 13 = .ok (.putfield 15, 3) := by decide +kernel
theorem dX5_init_16 : decode cX5_init 16 = .ok (.aload_n 0, 1) := by decide +kernel
theorem dX5_init_17 : decode cX5_init 17 = .ok (.iload_n 1, 1) := by decide +kernel
theorem dX5_init_18 : decode cX5_init 18 = .ok (.iload_n 2, 1) := by decide +kernel
theorem dX5_init_19 : decode cX5_init 19 = .ok (.imul, 1) := by decide +kernel
theorem dX5_init_20 : decode cX5_init 20 = .ok (.newarray .int, 2) := by decide +kernel
theorem dX5_init_22 : decode cX5_init 22 = .ok (.putfield 19, 3) := by decide +kernel
theorem dX5_init_25 : decode cX5_init 25 = .ok (.aload_n 0, 1) := by decide +kernel
theorem dX5_init_26 : decode cX5_init 26 = .ok (.getfield 15, 3) := by decide +kernel
theorem dX5_init_29 : decode cX5_init 29 = .ok (.iconst (-1), 1) := by decide +kernel
theorem dX5_init_30 : decode cX5_init 30 = .ok (.invokestatic 22, 3) := by decide +kernel
theorem dX5_init_33 : decode cX5_init 33 = .ok (.return_, 1) := by decide +kernel
theorem dX5_hasNumber_0 : decode cX5_hasNumber 0 = .ok (.iload_n 1, 1) := by decide +kernel
theorem dX5_hasNumber_1 : decode cX5_hasNumber 1 = .ok (.ifCond .lt 16, 3) := by decide +kernel
theorem dX5_hasNumber_4 : decode cX5_hasNumber 4 = .ok (.iload_n 1, 1) := by decide +kernel
theorem dX5_hasNumber_5 : decode cX5_hasNumber 5 = .ok (.aload_n 0, 1) := by decide +kernel
theorem dX5_hasNumber_6 : decode cX5_hasNumber 6 = .ok (.getfield 15, 3) := by decide +kernel
theorem dX5_hasNumber_9 : decode cX5_hasNumber 9 = .ok (.arraylength, 1) := by decide +kernel
theorem dX5_hasNumber_10 : decode cX5_hasNumber 10 = .ok (.if_icmp .ge 7, 3) := by decide +kernel
theorem dX5_hasNumber_13 : decode cX5_hasNumber 13 = .ok (.iconst 1, 1) := by decide +kernel
theorem dX5_hasNumber_14 : decode cX5_hasNumber 14 = .ok (.goto 4, 3) := by decide +kernel
theorem dX5_hasNumber_17 : decode cX5_hasNumber 17 = .ok (.iconst 0, 1) := by decide +kernel
theorem dX5_hasNumber_18 : decode cX5_hasNumber 18 = .ok (.ireturn, 1) := by decide +kernel
theorem dX5_isThere_0 : decode cX5_isThere 0 = .ok (.aload_n 0, 1) := by decide +kernel
theorem dX5_isThere_1 : decode cX5_isThere 1 = .ok (.getfield 15, 3) := by decide +kernel
theorem dX5_isThere_4 : decode cX5_isThere 4 = .ok (.iload_n 1, 1) := by decide +kernel
theorem dX5_isThere_5 : decode cX5_isThere 5 = .ok (.iaload, 1) := by decide +kernel
theorem dX5_isThere_6 : decode cX5_isThere 6 = .ok (.iconst (-1), 1) := by decide +kernel
theorem dX5_isThere_7 : decode cX5_isThere 7 = .ok (.if_icmp .eq 7, 3) := by decide +kernel
theorem dX5_isThere_10 : decode cX5_isThere 10 = .ok (.iconst 1, 1) := by decide +kernel
theorem dX5_isThere_11 : decode cX5_isThere 11 = .ok (.goto 4, 3) := by decide +kernel
theorem dX5_isThere_14 : decode cX5_isThere 14 = .ok (.iconst 0, 1) := by decide +kernel
theorem dX5_isThere_15 : decode cX5_isThere 15 = .ok (.ireturn, 1) := by decide +kernel
theorem dX5_hasPlace_0 : decode cX5_hasPlace 0 = .ok (.iload_n 2, 1) := by decide +kernel
theorem dX5_hasPlace_1 : decode cX5_hasPlace 1 = .ok (.ifCond .lt 17, 3) := by decide +kernel
theorem dX5_hasPlace_4 : decode cX5_hasPlace 4 = .ok (.iload_n 2, 1) := by decide +kernel
theorem dX5_hasPlace_5 : decode cX5_hasPlace 5 = .ok (.aload_n 0, 1) := by decide +kernel
theorem dX5_hasPlace_6 : decode cX5_hasPlace 6 = .ok (.getfield 15, 3) := by decide +kernel
theorem dX5_hasPlace_9 : decode cX5_hasPlace 9 = .ok (.iload_n 1, 1) := by decide +kernel
theorem dX5_hasPlace_10 : decode cX5_hasPlace 10 = .ok (.iaload, 1) := by decide +kernel
theorem dX5_hasPlace_11 : decode cX5_hasPlace 11 = .ok (.if_icmp .ge 7, 3) := by decide +kernel
theorem dX5_hasPlace_14 : decode cX5_hasPlace 14 = .ok (.iconst 1, 1) := by decide +kernel
theorem dX5_hasPlace_15 : decode cX5_hasPlace 15 = .ok (.goto 4, 3) := by decide +kernel
theorem dX5_hasPlace_18 : decode cX5_hasPlace 18 = .ok (.iconst 0, 1) := by decide +kernel
theorem dX5_hasPlace_19 : decode cX5_hasPlace 19 = .ok (.ireturn, 1) := by decide +kernel
theorem dX5_reaches_0 : decode cX5_reaches 0 = .ok (.iload_n 2, 1) := by decide +kernel
theorem dX5_reaches_1 : decode cX5_reaches 1 = .ok (.ifCond .lt 29, 3) := by decide +kernel
theorem dX5_reaches_4 : decode cX5_reaches 4 = .ok (.iload_n 2, 1) := by decide +kernel
theorem dX5_reaches_5 : decode cX5_reaches 5 = .ok (.aload_n 0, 1) := by decide +kernel
theorem dX5_reaches_6 : decode cX5_reaches 6 = .ok (.getfield 15, 3) := by decide +kernel
theorem dX5_reaches_9 : decode cX5_reaches 9 = .ok (.iload_n 1, 1) := by decide +kernel
theorem dX5_reaches_10 : decode cX5_reaches 10 = .ok (.iaload, 1) := by decide +kernel
theorem dX5_reaches_11 : decode cX5_reaches 11 = .ok (.if_icmp .gt 19, 3) := by decide +kernel
theorem dX5_reaches_14 : decode cX5_reaches 14 = .ok (.iload_n 3, 1) := by decide +kernel
theorem dX5_reaches_15 : decode cX5_reaches 15 = .ok (.aload_n 0, 1) := by decide +kernel
theorem dX5_reaches_16 : decode cX5_reaches 16 = .ok (.getfield 15, 3) := by decide +kernel
theorem dX5_reaches_19 : decode cX5_reaches 19 = .ok (.iload_n 1, 1) := by decide +kernel
theorem dX5_reaches_20 : decode cX5_reaches 20 = .ok (.iaload, 1) := by decide +kernel
theorem dX5_reaches_21 : decode cX5_reaches 21 = .ok (.iload_n 2, 1) := by decide +kernel
theorem dX5_reaches_22 : decode cX5_reaches 22 = .ok (.isub, 1) := by decide +kernel
theorem dX5_reaches_23 : decode cX5_reaches 23 = .ok (.if_icmp .gt 7, 3) := by decide +kernel
theorem dX5_reaches_26 : decode cX5_reaches 26 = .ok (.iconst 1, 1) := by decide +kernel
theorem dX5_reaches_27 : decode cX5_reaches 27 = .ok (.goto 4, 3) := by decide +kernel
theorem dX5_reaches_30 : decode cX5_reaches 30 = .ok (.iconst 0, 1) := by decide +kernel
theorem dX5_reaches_31 : decode cX5_reaches 31 = .ok (.ireturn, 1) := by decide +kernel
theorem dX5_sizeOf_0 : decode cX5_sizeOf 0 = .ok (.aload_n 0, 1) := by decide +kernel
theorem dX5_sizeOf_1 : decode cX5_sizeOf 1 = .ok (.getfield 15, 3) := by decide +kernel
theorem dX5_sizeOf_4 : decode cX5_sizeOf 4 = .ok (.iload_n 1, 1) := by decide +kernel
theorem dX5_sizeOf_5 : decode cX5_sizeOf 5 = .ok (.iaload, 1) := by decide +kernel
theorem dX5_sizeOf_6 : decode cX5_sizeOf 6 = .ok (.ireturn, 1) := by decide +kernel
theorem dX5_cell_0 : decode cX5_cell 0 = .ok (.aload_n 0, 1) := by decide +kernel
theorem dX5_cell_1 : decode cX5_cell 1 = .ok (.getfield 19, 3) := by decide +kernel
theorem dX5_cell_4 : decode cX5_cell 4 = .ok (.iload_n 1, 1) := by decide +kernel
theorem dX5_cell_5 : decode cX5_cell 5 = .ok (.aload_n 0, 1) := by decide +kernel
theorem dX5_cell_6 : decode cX5_cell 6 = .ok (.getfield 9, 3) := by decide +kernel
theorem dX5_cell_9 : decode cX5_cell 9 = .ok (.imul, 1) := by decide +kernel
theorem dX5_cell_10 : decode cX5_cell 10 = .ok (.iload_n 2, 1) := by decide +kernel
theorem dX5_cell_11 : decode cX5_cell 11 = .ok (.iadd, 1) := by decide +kernel
theorem dX5_cell_12 : decode cX5_cell 12 = .ok (.iaload, 1) := by decide +kernel
theorem dX5_cell_13 : decode cX5_cell 13 = .ok (.ireturn, 1) := by decide +kernel
theorem dX5_setCell_0 : decode cX5_setCell 0 = .ok (.aload_n 0, 1) := by decide +kernel
theorem dX5_setCell_1 : decode cX5_setCell 1 = .ok (.getfield 19, 3) := by decide +kernel
theorem dX5_setCell_4 : decode cX5_setCell 4 = .ok (.iload_n 1, 1) := by decide +kernel
theorem dX5_setCell_5 : decode cX5_setCell 5 = .ok (.aload_n 0, 1) := by decide +kernel
theorem dX5_setCell_6 : decode cX5_setCell 6 = .ok (.getfield 9, 3) := by decide +kernel
theorem dX5_setCell_9 : decode cX5_setCell 9 = .ok (.imul, 1) := by decide +kernel
theorem dX5_setCell_10 : decode cX5_setCell 10 = .ok (.iload_n 2, 1) := by decide +kernel
theorem dX5_setCell_11 : decode cX5_setCell 11 = .ok (.iadd, 1) := by decide +kernel
theorem dX5_setCell_12 : decode cX5_setCell 12 = .ok (.iload_n 3, 1) := by decide +kernel
theorem dX5_setCell_13 : decode cX5_setCell 13 = .ok (.iastore, 1) := by decide +kernel
theorem dX5_setCell_14 : decode cX5_setCell 14 = .ok (.return_, 1) := by decide +kernel
set_option maxRecDepth 20000 in
theorem ggX5_makeAnew_J7_fill_fda19 : GoodIn wsX5_makeAnew wsJ7_fill_fda19 := goodIn_r _ [7, 8, 9, 6, 10] (by decide +kernel) (by decide +kernel)
set_option maxRecDepth 20000 in
theorem gX5_makeAnew_J7_fill_fda19 : GoodIn wsX5_makeAnew (va_wsS RX5 28 yJ7_fill_fda19 wsJ7_fill_fda19) := goodIn_app (goodIn_of _ (by decide +kernel)) ggX5_makeAnew_J7_fill_fda19
theorem dX5_makeAnew_0 : decode cX5_makeAnew 0 = .ok (.aload_n 0, 1) := by decide +kernel
theorem dX5_makeAnew_1 : decode cX5_makeAnew 1 = .ok (.getfield 15, 3) := by decide +kernel
theorem dX5_makeAnew_4 : decode cX5_makeAnew 4 = .ok (.iload_n 1, 1) := by decide +kernel
theorem dX5_makeAnew_5 : decode cX5_makeAnew 5 = .ok (.iload_n 2, 1) := by decide +kernel
theorem dX5_makeAnew_6 : decode cX5_makeAnew 6 = .ok (.iastore, 1) := by decide +kernel
theorem dX5_makeAnew_7 : decode cX5_makeAnew 7 = .ok (.aload_n 0, 1) := by decide +kernel
theorem dX5_makeAnew_8 : decode cX5_makeAnew 8 = .ok (.getfield 19, 3) := by decide +kernel
theorem dX5_makeAnew_11 : decode cX5_makeAnew 11 = .ok (.iload_n 1, 1) := by decide +kernel
theorem dX5_makeAnew_12 : decode cX5_makeAnew 12 = .ok (.aload_n 0, 1) := by decide +kernel
theorem dX5_makeAnew_13 : decode cX5_makeAnew 13 = .ok (.getfield 9, 3) := by decide +kernel
theorem dX5_makeAnew_16 : decode cX5_makeAnew 16 = .ok (.imul, 1) := by decide +kernel
theorem dX5_makeAnew_17 : decode cX5_makeAnew 17 = .ok (.iload_n 1, 1) := by decide +kernel
theorem dX5_makeAnew_18 : decode cX5_makeAnew 18 = .ok (.aload_n 0, 1) := by decide +kernel
theorem dX5_makeAnew_19 : decode cX5_makeAnew 19 = .ok (.getfield 9, 3) := by decide +kernel
theorem dX5_makeAnew_22 : decode cX5_makeAnew 22 = .ok (.imul, 1) := by decide +kernel
theorem dX5_makeAnew_23 : decode cX5_makeAnew 23 = .ok (.iload_n 2, 1) := by decide +kernel
theorem dX5_makeAnew_24 : decode cX5_makeAnew 24 = .ok (.iadd, 1) := by decide +kernel
theorem dX5_makeAnew_25 : decode cX5_makeAnew 25 = .ok (.iload_n 3, 1) := by decide +kernel
theorem dX5_makeAnew_26 : decode cX5_makeAnew 26 = .ok (.invokestatic 28, 3) := by decide +kernel
theorem dX5_makeAnew_29 : decode cX5_makeAnew 29 = .ok (.return_, 1) := by decide +kernel
theorem dX5_drop_0 : decode cX5_drop 0 = .ok (.aload_n 0, 1) := by decide +kernel
theorem dX5_drop_1 : decode cX5_drop 1 = .ok (.getfield 15, 3) := by decide +kernel
theorem dX5_drop_4 : decode cX5_drop 4 = .ok (.iload_n 1, 1) := by decide +kernel
theorem dX5_drop_5 : decode cX5_drop 5 = .ok (.iconst (-1), 1) := by decide +kernel
theorem dX5_drop_6 : decode cX5_drop 6 = .ok (.iastore, 1) := by decide +kernel
theorem dX5_drop_7 : decode cX5_drop 7 = .ok (.return_, 1) := by decide +kernel
theorem dX5_move_0 : decode cX5_move 0 = .ok (.aload_n 0, 1) := by decide +kernel
theorem dX5_move_1 : decode cX5_move 1 = .ok (.getfield 19, 3) := by decide +kernel
theorem dX5_move_4 : decode cX5_move 4 = .ok (.iload_n 1, 1) := by decide +kernel
theorem dX5_move_5 : decode cX5_move 5 = .ok (.aload_n 0, 1) := by decide +kernel
theorem dX5_move_6 : decode cX5_move 6 = .ok (.getfield 9, 3) := by decide +kernel
theorem dX5_move_9 : decode cX5_move 9 = .ok (.imul, 1) := by decide +kernel
theorem dX5_move_10 : decode cX5_move 10 = .ok (.iload_n 2, 1) := by decide +kernel
theorem dX5_move_11 : decode cX5_move 11 = .ok (.iadd, 1) := by decide +kernel
theorem dX5_move_12 : decode cX5_move 12 = .ok (.aload_n 0, 1) := by decide +kernel
theorem dX5_move_13 : decode cX5_move 13 = .ok (.getfield 19, 3) := by decide +kernel
theorem dX5_move_16 : decode cX5_move 16 = .ok (.iload_n 3, 1) := by decide +kernel
theorem dX5_move_17 : decode cX5_move 17 = .ok (.aload_n 0, 1) := by decide +kernel
theorem dX5_move_18 : decode cX5_move 18 = .ok (.getfield 9, 3) := by decide +kernel
theorem dX5_move_21 : decode cX5_move 21 = .ok (.imul, 1) := by decide +kernel
theorem dX5_move_22 : decode cX5_move 22 = .ok (.iload 4, 2) := by decide +kernel
theorem dX5_move_24 : decode cX5_move 24 = .ok (.iadd, 1) := by decide +kernel
theorem dX5_move_25 : decode cX5_move 25 = .ok (.iload 5, 2) := by decide +kernel
theorem dX5_move_27 : decode cX5_move 27 = .ok (.invokestatic 31, 3) := by decide +kernel
theorem dX5_move_30 : decode cX5_move 30 = .ok (.return_, 1) := by decide +kernel
set_option maxRecDepth 20000 in
theorem ggX5_sumOf_X5_cell : GoodIn wsX5_sumOf wsX5_cell := goodIn_r _ [6, 7, 8, 9, 10, 11] (by decide +kernel) (by decide +kernel)
set_option maxRecDepth 20000 in
theorem gX5_sumOf_X5_cell : GoodIn wsX5_sumOf (wsV RX5 37 RX5 yX5_cell wsX5_cell) := goodIn_app (goodIn_of _ (by decide +kernel)) ggX5_sumOf_X5_cell
theorem dX5_sumOf_0 : decode cX5_sumOf 0 = .ok (.lconst 0, 1) := by decide +kernel
theorem dX5_sumOf_1 : decode cX5_sumOf 1 = .ok (.lstore_n 2, 1) := by decide +kernel
theorem dX5_sumOf_2 : decode cX5_sumOf 2 = .ok (.iconst 0, 1) := by decide +kernel
theorem dX5_sumOf_3 : decode cX5_sumOf 3 = .ok (.istore 4, 2) := by decide +kernel
theorem dX5_sumOf_5 : decode cX5_sumOf 5 = .ok (.iload 4, 2) := by decide +kernel
theorem dX5_sumOf_7 : decode cX5_sumOf 7 = .ok (.aload_n 0, 1) := by decide +kernel
theorem dX5_sumOf_8 : decode cX5_sumOf 8 = .ok (.getfield 15, 3) := by decide +kernel
theorem dX5_sumOf_11 : decode cX5_sumOf 11 = .ok (.iload_n 1, 1) := by decide +kernel
theorem dX5_sumOf_12 : decode cX5_sumOf 12 = .ok (.iaload, 1) := by decide +kernel
theorem dX5_sumOf_13 : decode cX5_sumOf 13 = .ok (.if_icmp .ge 20, 3) := by decide +kernel
theorem dX5_sumOf_16 : decode cX5_sumOf 16 = .ok (.lload_n 2, 1) := by decide +kernel
theorem dX5_sumOf_17 : decode cX5_sumOf 17 = .ok (.aload_n 0, 1) := by decide +kernel
theorem dX5_sumOf_18 : decode cX5_sumOf 18 = .ok (.iload_n 1, 1) := by decide +kernel
theorem dX5_sumOf_19 : decode cX5_sumOf 19 = .ok (.iload 4, 2) := by decide +kernel
theorem dX5_sumOf_21 : decode cX5_sumOf 21 = .ok (.invokevirtual 37, 3) := by decide +kernel
theorem dX5_sumOf_24 : decode cX5_sumOf 24 = .ok (.i2l, 1) := by decide +kernel
theorem dX5_sumOf_25 : decode cX5_sumOf 25 = .ok (.ladd, 1) := by decide +kernel
theorem dX5_sumOf_26 : decode cX5_sumOf 26 = .ok (.lstore_n 2, 1) := by decide +kernel
theorem dX5_sumOf_27 : decode cX5_sumOf 27 = .ok (.iinc 4 1, 3) := by decide +kernel
theorem dX5_sumOf_30 : decode cX5_sumOf 30 = .ok (.goto (-25), 3) := by decide +kernel
theorem dX5_sumOf_33 : decode cX5_sumOf 33 = .ok (.lload_n 2, 1) := by decide +kernel
theorem dX5_sumOf_34 : decode cX5_sumOf 34 = .ok (.lreturn, 1) := by decide +kernel
set_option maxRecDepth 20000 in
theorem ggX5_howManyThere_X5_isThere : GoodIn wsX5_howManyThere wsX5_isThere := goodIn_r _ [6, 1, 7, 8, 9] (by decide +kernel) (by decide +kernel)
set_option maxRecDepth 20000 in
theorem gX5_howManyThere_X5_isThere : GoodIn wsX5_howManyThere (wsV RX5 41 RX5 yX5_isThere wsX5_isThere) := goodIn_app (goodIn_of _ (by decide +kernel)) ggX5_howManyThere_X5_isThere
theorem dX5_howManyThere_0 : decode cX5_howManyThere 0 = .ok (.iconst 0, 1) := by decide +kernel
theorem dX5_howManyThere_1 : decode cX5_howManyThere 1 = .ok (.istore_n 1, 1) := by decide +kernel
theorem dX5_howManyThere_2 : decode cX5_howManyThere 2 = .ok (.iconst 0, 1) := by decide +kernel
theorem dX5_howManyThere_3 : decode cX5_howManyThere 3 = .ok (.istore_n 2, 1) := by decide +kernel
theorem dX5_howManyThere_4 : decode cX5_howManyThere 4 = .ok (.iload_n 2, 1) := by decide +kernel
theorem dX5_howManyThere_5 : decode cX5_howManyThere 5 = .ok (.aload_n 0, 1) := by decide +kernel
theorem dX5_howManyThere_6 : decode cX5_howManyThere 6 = .ok (.getfield 15, 3) := by decide +kernel
theorem dX5_howManyThere_9 : decode cX5_howManyThere 9 = .ok (.arraylength, 1) := by decide +kernel
theorem dX5_howManyThere_10 : decode cX5_howManyThere 10 = .ok (.if_icmp .ge 20, 3) := by decide +kernel
theorem dX5_howManyThere_13 : decode cX5_howManyThere 13 = .ok (.aload_n 0, 1) := by decide +kernel
theorem dX5_howManyThere_14 : decode cX5_howManyThere 14 = .ok (.iload_n 2, 1) := by decide +kernel
theorem dX5_howManyThere_15 : decode cX5_howManyThere 15 = .ok (.invokevirtual 41, 3) := by decide +kernel
theorem dX5_howManyThere_18 : decode cX5_howManyThere 18 = .ok (.ifCond .eq 6, 3) := by decide +kernel
theorem dX5_howManyThere_21 : decode cX5_howManyThere 21 = .ok (.iinc 1 1, 3) := by decide +kernel
theorem dX5_howManyThere_24 : decode cX5_howManyThere 24 = .ok (.iinc 2 1, 3) := by decide +kernel
theorem dX5_howManyThere_27 : decode cX5_howManyThere 27 = .ok (.goto (-23), 3) := by decide +kernel
theorem dX5_howManyThere_30 : decode cX5_howManyThere 30 = .ok (.iload_n 1, 1) := by decide +kernel
theorem dX5_howManyThere_31 : decode cX5_howManyThere 31 = .ok (.ireturn, 1) := by decide +kernel
set_option maxRecDepth 20000 in
theorem ggX5_digestFrom_X5_cell : GoodIn wsX5_digestFrom wsX5_cell := goodIn_r _ [7, 8, 9, 10, 11, 12] (by decide +kernel) (by decide +kernel)
set_option maxRecDepth 20000 in
theorem gX5_digestFrom_X5_cell : GoodIn wsX5_digestFrom (wsV RX5 37 RX5 yX5_cell wsX5_cell) := goodIn_app (goodIn_of _ (by decide +kernel)) ggX5_digestFrom_X5_cell
theorem dX5_digestFrom_0 : decode cX5_digestFrom 0 = .ok (.lload_n 1, 1) := by decide +kernel
theorem dX5_digestFrom_1 : decode cX5_digestFrom 1 = .ok (.lstore_n 3, 1) := by decide +kernel
theorem dX5_digestFrom_2 : decode cX5_digestFrom 2 = .ok (.iconst 0, 1) := by decide +kernel
theorem dX5_digestFrom_3 : decode cX5_digestFrom 3 = .ok (.istore 5, 2) := by decide +kernel
theorem dX5_digestFrom_5 : decode cX5_digestFrom 5 = .ok (.iload 5, 2) := by decide +kernel
theorem dX5_digestFrom_7 : decode cX5_digestFrom 7 = .ok (.aload_n 0, 1) := by decide +kernel
theorem dX5_digestFrom_8 : decode cX5_digestFrom 8 = .ok (.getfield 15, 3) := by decide +kernel
theorem dX5_digestFrom_11 : decode cX5_digestFrom 11 = .ok (.arraylength, 1) := by decide +kernel
theorem dX5_digestFrom_12 : decode cX5_digestFrom 12 = .ok (.if_icmp .ge 61, 3) := by decide +kernel
theorem dX5_digestFrom_15 : decode cX5_digestFrom 15 = .ok (.ldc2_w 45, 3) := by decide +kernel
theorem dX5_digestFrom_18 : decode cX5_digestFrom 18 = .ok (.lload_n 3, 1) := by decide +kernel
theorem dX5_digestFrom_19 : decode cX5_digestFrom 19 = .ok (.lmul, 1) := by decide +kernel
theorem dX5_digestFrom_20 : decode cX5_digestFrom 20 = .ok (.aload_n 0, 1) := by decide +kernel
theorem dX5_digestFrom_21 : decode cX5_digestFrom 21 = .ok (.getfield 15, 3) := by decide +kernel
theorem dX5_digestFrom_24 : decode cX5_digestFrom 24 = .ok (.iload 5, 2) := by decide +kernel
theorem dX5_digestFrom_26 : decode cX5_digestFrom 26 = .ok (.iaload, 1) := by decide +kernel
theorem dX5_digestFrom_27 : decode cX5_digestFrom 27 = .ok (.i2l, 1) := by decide +kernel
theorem dX5_digestFrom_28 : decode cX5_digestFrom 28 = .ok (.ladd, 1) := by decide +kernel
theorem dX5_digestFrom_29 : decode cX5_digestFrom 29 = .ok (.lstore_n 3, 1) := by decide +kernel
theorem dX5_digestFrom_30 : decode cX5_digestFrom 30 = .ok (.iconst 0, 1) := by decide +kernel
theorem dX5_digestFrom_31 : decode cX5_digestFrom 31 = .ok (.istore 6, 2) := by decide +kernel
theorem dX5_digestFrom_33 : decode cX5_digestFrom 33 = .ok (.iload 6, 2) := by decide +kernel
theorem dX5_digestFrom_35 : decode cX5_digestFrom 35 = .ok (.aload_n 0, 1) := by decide +kernel
theorem dX5_digestFrom_36 : decode cX5_digestFrom 36 = .ok (.getfield 15, 3) := by decide +kernel
theorem dX5_digestFrom_39 : decode cX5_digestFrom 39 = .ok (.iload 5, 2) := by decide +kernel
theorem dX5_digestFrom_41 : decode cX5_digestFrom 41 = .ok (.iaload, 1) := by decide +kernel
theorem dX5_digestFrom_42 : decode cX5_digestFrom 42 = .ok (.if_icmp .ge 25, 3) := by decide +kernel
theorem dX5_digestFrom_45 : decode cX5_digestFrom 45 = .ok (.ldc2_w 45, 3) := by decide +kernel
theorem dX5_digestFrom_48 : decode cX5_digestFrom 48 = .ok (.lload_n 3, 1) := by decide +kernel
theorem dX5_digestFrom_49 : decode cX5_digestFrom 49 = .ok (.lmul, 1) := by decide +kernel
theorem dX5_digestFrom_50 : decode cX5_digestFrom 50 = .ok (.aload_n 0, 1) := by decide +kernel
theorem dX5_digestFrom_51 : decode cX5_digestFrom 51 = .ok (.iload 5, 2) := by decide +kernel
theorem dX5_digestFrom_53 : decode cX5_digestFrom 53 = .ok (.iload 6, 2) := by decide +kernel
theorem dX5_digestFrom_55 : decode cX5_digestFrom 55 = .ok (.invokevirtual 37, 3) := by decide +kernel
theorem dX5_digestFrom_58 : decode cX5_digestFrom 58 = .ok (.i2l, 1) := by decide +kernel
theorem dX5_digestFrom_59 : decode cX5_digestFrom 59 = .ok (.ladd, 1) := by decide +kernel
theorem dX5_digestFrom_60 : decode cX5_digestFrom 60 = .ok (.lstore_n 3, 1) := by decide +kernel
theorem dX5_digestFrom_61 : decode cX5_digestFrom 61 = .ok (.iinc 6 1, 3) := by decide +kernel
theorem dX5_digestFrom_64 : decode cX5_digestFrom 64 = .ok (.goto (-31), 3) := by decide +kernel
theorem dX5_digestFrom_67 : decode cX5_digestFrom 67 = .ok (.iinc 5 1, 3) := by decide +kernel
theorem dX5_digestFrom_70 : decode cX5_digestFrom 70 = .ok (.goto (-65), 3) := by decide +kernel
theorem dX5_digestFrom_73 : decode cX5_digestFrom 73 = .ok (.lload_n 3, 1) := by decide +kernel
theorem dX5_digestFrom_74 : decode cX5_digestFrom 74 = .ok (.lreturn, 1) := by decide +kernel
theorem dX6_init_0 : decode cX6_init 0 = .ok (.aload_n 0, 1) := by decide +kernel
theorem dX6_init_1 : decode cX6_init 1 = .ok (.invokespecial 3, 3) := by decide +kernel
theorem dX6_init_4 : decode cX6_init 4 = .ok (.aload_n 0, 1) := by decide +kernel
theorem dX6_init_5 : decode cX6_init 5 = .ok (.bipush 6, 2) := by decide +kernel
theorem dX6_init_7 : decode cX6_init 7 = .ok (.newarray .int, 2) := by decide +kernel
theorem dX6_init_9 : decode cX6_init 9 = .ok (.putfield 9, 3) := by decide +kernel
theorem dX6_init_12 : decode cX6_init 12 = .ok (.aload_n 0, 1) := by decide +kernel
theorem dX6_init_13 : decode cX6_init 13 = .ok (.iconst 0, 1) := by decide +kernel
theorem dX6_init_14 : decode cX6_init 14 = .ok (.putfield 15, 3) := by decide +kernel
theorem dX6_init_17 : decode cX6_init 17 = .ok (.return_, 1) := by decide +kernel
theorem dX6_note_0 : decode cX6_note 0 = .ok (.aload_n 0, 1) := by decide +kernel
theorem dX6_note_1 : decode cX6_note 1 = .ok (.iload_n 1, 1) := by decide +kernel
theorem dX6_note_2 : decode cX6_note 2 = .ok (.putfield 15, 3) := by decide +kernel
theorem dX6_note_5 : decode cX6_note 5 = .ok (.aload_n 0, 1) := by decide +kernel
theorem dX6_note_6 : decode cX6_note 6 = .ok (.getfield 9, 3) := by decide +kernel
theorem dX6_note_9 : decode cX6_note 9 = .ok (.iload_n 1, 1) := by decide +kernel
theorem dX6_note_10 : decode cX6_note 10 = .ok (.dup2, 1) := by decide +kernel
theorem dX6_note_11 : decode cX6_note 11 = .ok (.iaload, 1) := by decide +kernel
theorem dX6_note_12 : decode cX6_note 12 = .ok (.iconst 1, 1) := by decide +kernel
theorem dX6_note_13 : decode cX6_note 13 = .ok (.iadd, 1) := by decide +kernel
theorem dX6_note_14 : decode cX6_note 14 = .ok (.iastore, 1) := by decide +kernel
theorem dX6_note_15 : decode cX6_note 15 = .ok (.bipush (-3), 2) := by decide +kernel
theorem dX6_note_17 : decode cX6_note 17 = .ok (.ireturn, 1) := by decide +kernel
theorem dX6_latest_0 : decode cX6_latest 0 = .ok (.aload_n 0, 1) := by decide +kernel
theorem dX6_latest_1 : decode cX6_latest 1 = .ok (.getfield 15, 3) := by decide +kernel
theorem dX6_latest_4 : decode cX6_latest 4 = .ok (.ireturn, 1) := by decide +kernel
theorem dX6_howOften_0 : decode cX6_howOften 0 = .ok (.aload_n 0, 1) := by decide +kernel
theorem dX6_howOften_1 : decode cX6_howOften 1 = .ok (.getfield 9, 3) := by decide +kernel
theorem dX6_howOften_4 : decode cX6_howOften 4 = .ok (.iload_n 1, 1) := by decide +kernel
theorem dX6_howOften_5 : decode cX6_howOften 5 = .ok (.iaload, 1) := by decide +kernel
theorem dX6_howOften_6 : decode cX6_howOften 6 = .ok (.ireturn, 1) := by decide +kernel
