theorem dX1_init_0 : decode cX1_init 0 = .ok (.aload_n 0, 1) := by decide +kernel
theorem dX1_init_1 : decode cX1_init 1 = .ok (.invokespecial 3, 3) := by decide +kernel
theorem dX1_init_4 : decode cX1_init 4 = .ok (.aload_n 0, 1) := by decide +kernel
theorem dX1_init_5 : decode cX1_init 5 = .ok (.bipush 12, 2) := by decide +kernel
theorem dX1_init_7 : decode cX1_init 7 = .ok (.newarray .int, 2) := by decide +kernel
theorem dX1_init_9 : decode cX1_init 9 = .ok (.putfield 9, 3) := by decide +kernel
theorem dX1_init_12 : decode cX1_init 12 = .ok (.aload_n 0, 1) := by decide +kernel
theorem dX1_init_13 : decode cX1_init 13 = .ok (.bipush 12, 2) := by decide +kernel
theorem dX1_init_15 : decode cX1_init 15 = .ok (.newarray .int, 2) := by decide +kernel
theorem dX1_init_17 : decode cX1_init 17 = .ok (.putfield 15, 3) := by decide +kernel
theorem dX1_init_20 : decode cX1_init 20 = .ok (.aload_n 0, 1) := by decide +kernel
theorem dX1_init_21 : decode cX1_init 21 = .ok (.bipush 12, 2) := by decide +kernel
theorem dX1_init_23 : decode cX1_init 23 = .ok (.newarray .int, 2) := by decide +kernel
theorem dX1_init_25 : decode cX1_init 25 = .ok (.putfield 18, 3) := by decide +kernel
theorem dX1_init_28 : decode cX1_init 28 = .ok (.aload_n 0, 1) := by decide +kernel
theorem dX1_init_29 : decode cX1_init 29 = .ok (.bipush 12, 2) := by decide +kernel
theorem dX1_init_31 : decode cX1_init 31 = .ok (.newarray .int, 2) := by decide +kernel
theorem dX1_init_33 : decode cX1_init 33 = .ok (.putfield 21, 3) := by decide +kernel
theorem dX1_init_36 : decode cX1_init 36 = .ok (.aload_n 0, 1) := by decide +kernel
theorem dX1_init_37 : decode cX1_init 37 = .ok (.bipush 12, 2) := by decide +kernel
theorem dX1_init_39 : decode cX1_init 39 = .ok (.newarray .int, 2) := by decide +kernel
theorem dX1_init_41 : decode cX1_init 41 = .ok (.putfield 24, 3) := by decide +kernel
theorem dX1_init_44 : decode cX1_init 44 = .ok (.aload_n 0, 1) := by decide +kernel
theorem dX1_init_45 : decode cX1_init 45 = .ok (.bipush 12, 2) := by decide +kernel
theorem dX1_init_47 : decode cX1_init 47 = .ok (.newarray .int, 2) := by decide +kernel
theorem dX1_init_49 : decode cX1_init 49 = .ok (.putfield 27, 3) := by decide +kernel
theorem dX1_init_52 : decode cX1_init 52 = .ok (.aload_n 0, 1) := by decide +kernel
theorem dX1_init_53 : decode cX1_init 53 = .ok (.bipush 40, 2) := by decide +kernel
theorem dX1_init_55 : decode cX1_init 55 = .ok (.newarray .int, 2) := by decide +kernel
theorem dX1_init_57 : decode cX1_init 57 = .ok (.putfield 30, 3) := by decide +kernel
theorem dX1_init_60 : decode cX1_init 60 = .ok (.aload_n 0, 1) := by decide +kernel
theorem dX1_init_61 : decode cX1_init 61 = .ok (.iconst 0, 1) := by decide +kernel
theorem dX1_init_62 : decode cX1_init 62 = .ok (.putfield 33, 3) := by decide +kernel
theorem dX1_init_65 : decode cX1_init 65 = .ok (.aload_n 0, 1) := by decide +kernel
theorem dX1_init_66 : decode cX1_init 66 = .ok (.iconst 0, 1) := by decide +kernel
theorem dX1_init_67 : decode cX1_init 67 = .ok (.putfield 37, 3) := by decide +kernel
theorem dX1_init_70 : decode cX1_init 70 = .ok (.aload_n 0, 1) := by decide +kernel
theorem dX1_init_71 : decode cX1_init 71 = .ok (.iconst 0, 1) := by decide +kernel
theorem dX1_init_72 : decode cX1_init 72 = .ok (.putfield 40, 3) := by decide +kernel
theorem dX1_init_75 : decode cX1_init 75 = .ok (.return_, 1) := by decide +kernel
theorem dX1_empty_0 : decode cX1_empty 0 = .ok (.aload_n 0, 1) := by decide +kernel
theorem dX1_empty_1 : decode cX1_empty 1 = .ok (.iconst 0, 1) := by decide +kernel
theorem dX1_empty_2 : decode cX1_empty 2 = .ok (.putfield 33, 3) := by decide +kernel
theorem dX1_empty_5 : decode cX1_empty 5 = .ok (.aload_n 0, 1) := by decide +kernel
theorem dX1_empty_6 : decode cX1_empty 6 = .ok (.iconst 0, 1) := by decide +kernel
theorem dX1_empty_7 : decode cX1_empty 7 = .ok (.putfield 37, 3) := by decide +kernel
theorem dX1_empty_10 : decode cX1_empty 10 = .ok (.aload_n 0, 1) := by decide +kernel
theorem dX1_empty_11 : decode cX1_empty 11 = .ok (.iconst 0, 1) := by decide +kernel
theorem dX1_empty_12 : decode cX1_empty 12 = .ok (.putfield 40, 3) := by decide +kernel
theorem dX1_empty_15 : decode cX1_empty 15 = .ok (.return_, 1) := by decide +kernel
theorem dX1_becomeLike_0 : decode cX1_becomeLike 0 = .ok (.aload_n 1, 1) := by decide +kernel
theorem dX1_becomeLike_1 : decode cX1_becomeLike 1 = .ok (.getfield 9, 3) := by decide +kernel
theorem dX1_becomeLike_4 : decode cX1_becomeLike 4 = .ok (.iconst 0, 1) := by decide +kernel
theorem dX1_becomeLike_5 : decode cX1_becomeLike 5 = .ok (.aload_n 0, 1) := by decide +kernel
theorem dX1_becomeLike_6 : decode cX1_becomeLike 6 = .ok (.getfield 9, 3) := by decide +kernel
theorem dX1_becomeLike_9 : decode cX1_becomeLike 9 = .ok (.iconst 0, 1) := by decide +kernel
theorem dX1_becomeLike_10 : decode cX1_becomeLike 10 = .ok (.bipush 12, 2) := by decide +kernel
theorem dX1_becomeLike_12 : decode cX1_becomeLike 12 = .ok (.invokestatic 43, 3) := by decide +kernel
theorem dX1_becomeLike_15 : decode cX1_becomeLike 15 = .ok (.aload_n 1, 1) := by decide +kernel
theorem dX1_becomeLike_16 : decode cX1_becomeLike 16 = .ok (.getfield 15, 3) := by decide +kernel
theorem dX1_becomeLike_19 : decode cX1_becomeLike 19 = .ok (.iconst 0, 1) := by decide +kernel
theorem dX1_becomeLike_20 : decode cX1_becomeLike 20 = .ok (.aload_n 0, 1) := by decide +kernel
theorem dX1_becomeLike_21 : decode cX1_becomeLike 21 = .ok (.getfield 15, 3) := by decide +kernel
theorem dX1_becomeLike_24 : decode cX1_becomeLike 24 = .ok (.iconst 0, 1) := by decide +kernel
theorem dX1_becomeLike_25 : decode cX1_becomeLike 25 = .ok (.bipush 12, 2) := by decide +kernel
theorem dX1_becomeLike_27 : decode cX1_becomeLike 27 = .ok (.invokestatic 43, 3) := by decide +kernel
theorem dX1_becomeLike_30 : decode cX1_becomeLike 30 = .ok (.aload_n 1, 1) := by decide +kernel
theorem dX1_becomeLike_31 : decode cX1_becomeLike 31 = .ok (.getfield 18, 3) := by decide +kernel
theorem dX1_becomeLike_34 : decode cX1_becomeLike 34 = .ok (.iconst 0, 1) := by decide +kernel
theorem dX1_becomeLike_35 : decode cX1_becomeLike 35 = .ok (.aload_n 0, 1) := by decide +kernel
theorem dX1_becomeLike_36 : decode cX1_becomeLike 36 = .ok (.getfield 18, 3) := by decide +kernel
theorem dX1_becomeLike_39 : decode cX1_becomeLike 39 = .ok (.iconst 0, 1) := by decide +kernel
theorem dX1_becomeLike_40 : decode cX1_becomeLike 40 = .ok (.bipush 12, 2) := by decide +kernel
theorem dX1_becomeLike_42 : decode cX1_becomeLike 42 = .ok (.invokestatic 43, 3) := by decide +kernel
theorem dX1_becomeLike_45 : decode cX1_becomeLike 45 = .ok (.aload_n 1, 1) := by decide +kernel
theorem dX1_becomeLike_46 : decode cX1_becomeLike 46 = .ok (.getfield 21, 3) := by decide +kernel
theorem dX1_becomeLike_49 : decode cX1_becomeLike 49 = .ok (.iconst 0, 1) := by decide +kernel
theorem dX1_becomeLike_50 : decode cX1_becomeLike 50 = .ok (.aload_n 0, 1) := by decide +kernel
theorem dX1_becomeLike_51 : decode cX1_becomeLike 51 = .ok (.getfield 21, 3) := by decide +kernel
theorem dX1_becomeLike_54 : decode cX1_becomeLike 54 = .ok (.iconst 0, 1) := by decide +kernel
theorem dX1_becomeLike_55 : decode cX1_becomeLike 55 = .ok (.bipush 12, 2) := by decide +kernel
theorem dX1_becomeLike_57 : decode cX1_becomeLike 57 = .ok (.invokestatic 43, 3) := by decide +kernel
theorem dX1_becomeLike_60 : decode cX1_becomeLike 60 = .ok (.aload_n 1, 1) := by decide +kernel
theorem dX1_becomeLike_61 : decode cX1_becomeLike 61 = .ok (.getfield 24, 3) := by decide +kernel
theorem dX1_becomeLike_64 : decode cX1_becomeLike 64 = .ok (.iconst 0, 1) := by decide +kernel
theorem dX1_becomeLike_65 : decode cX1_becomeLike 65 = .ok (.aload_n 0, 1) := by decide +kernel
theorem dX1_becomeLike_66 : decode cX1_becomeLike 66 = .ok (.getfield 24, 3) := by decide +kernel
theorem dX1_becomeLike_69 : decode cX1_becomeLike 69 = .ok (.iconst 0, 1) := by decide +kernel
theorem dX1_becomeLike_70 : decode cX1_becomeLike 70 = .ok (.bipush 12, 2) := by decide +kernel
theorem dX1_becomeLike_72 : decode cX1_becomeLike 72 = .ok (.invokestatic 43, 3) := by decide +kernel
theorem dX1_becomeLike_75 : decode cX1_becomeLike 75 = .ok (.aload_n 1, 1) := by decide +kernel
theorem dX1_becomeLike_76 : decode cX1_becomeLike 76 = .ok (.getfield 27, 3) := by decide +kernel
theorem dX1_becomeLike_79 : decode cX1_becomeLike 79 = .ok (.iconst 0, 1) := by decide +kernel
theorem dX1_becomeLike_80 : decode cX1_becomeLike 80 = .ok (.aload_n 0, 1) := by decide +kernel
theorem dX1_becomeLike_81 : decode cX1_becomeLike 81 = .ok (.getfield 27, 3) := by decide +kernel
theorem dX1_becomeLike_84 : decode cX1_becomeLike 84 = .ok (.iconst 0, 1) := by decide +kernel
theorem dX1_becomeLike_85 : decode cX1_becomeLike 85 = .ok (.bipush 12, 2) := by decide +kernel
theorem dX1_becomeLike_87 : decode cX1_becomeLike 87 = .ok (.invokestatic 43, 3) := by decide +kernel
theorem dX1_becomeLike_90 : decode cX1_becomeLike 90 = .ok (.aload_n 1, 1) := by decide +kernel
theorem dX1_becomeLike_91 : decode cX1_becomeLike 91 = .ok (.getfield 30, 3) := by decide +kernel
theorem dX1_becomeLike_94 : decode cX1_becomeLike 94 = .ok (.iconst 0, 1) := by decide +kernel
theorem dX1_becomeLike_95 : decode cX1_becomeLike 95 = .ok (.aload_n 0, 1) := by decide +kernel
theorem dX1_becomeLike_96 : decode cX1_becomeLike 96 = .ok (.getfield 30, 3) := by decide +kernel
theorem dX1_becomeLike_99 : decode cX1_becomeLike 99 = .ok (.iconst 0, 1) := by decide +kernel
theorem dX1_becomeLike_100 : decode cX1_becomeLike 100 = .ok (.bipush 40, 2) := by decide +kernel
theorem dX1_becomeLike_102 : decode cX1_becomeLike 102 = .ok (.invokestatic 43, 3) := by decide +kernel
theorem dX1_becomeLike_105 : decode cX1_becomeLike 105 = .ok (.aload_n 0, 1) := by decide +kernel
theorem dX1_becomeLike_106 : decode cX1_becomeLike 106 = .ok (.aload_n 1, 1) := by decide +kernel
theorem dX1_becomeLike_107 : decode cX1_becomeLike 107 = .ok (.getfield 33, 3) := by decide +kernel
theorem dX1_becomeLike_110 : decode cX1_becomeLike 110 = .ok (.putfield 33, 3) := by decide +kernel
theorem dX1_becomeLike_113 : decode cX1_becomeLike 113 = .ok (.aload_n 0, 1) := by decide +kernel
theorem dX1_becomeLike_114 : decode cX1_becomeLike 114 = .ok (.aload_n 1, 1) := by decide +kernel
theorem dX1_becomeLike_115 : decode cX1_becomeLike 115 = .ok (.getfield 37, 3) := by decide +kernel
theorem dX1_becomeLike_118 : decode cX1_becomeLike 118 = .ok (.putfield 37, 3) := by decide +kernel
theorem dX1_becomeLike_121 : decode cX1_becomeLike 121 = .ok (.aload_n 0, 1) := by decide +kernel
theorem dX1_becomeLike_122 : decode cX1_becomeLike 122 = .ok (.aload_n 1, 1) := by decide +kernel
theorem dX1_becomeLike_123 : decode cX1_becomeLike 123 = .ok (.getfield 40, 3) := by decide +kernel
theorem dX1_becomeLike_126 : decode cX1_becomeLike 126 = .ok (.putfield 40, 3) := by decide +kernel
theorem dX1_becomeLike_129 : decode cX1_becomeLike 129 = .ok (.return_, 1) := by decide +kernel
set_option maxRecDepth 20000 in
theorem ggX1_add_X1_isFull : GoodIn wsX1_add wsX1_isFull := goodIn_r _ [13, 2, 17, 18, 19, 20, 21, 22, 23, 24, 25, 26] (by decide +kernel) (by decide +kernel)
set_option maxRecDepth 20000 in
theorem gX1_add_X1_isFull : GoodIn wsX1_add (wsV RX1 49 RX1 yX1_isFull wsX1_isFull) := goodIn_app (goodIn_of _ (by decide +kernel)) ggX1_add_X1_isFull
set_option maxRecDepth 20000 in
theorem ggX1_add_X7_bit : GoodIn wsX1_add wsX7_bit := goodIn_r _ [16] (by decide +kernel) (by decide +kernel)
set_option maxRecDepth 20000 in
theorem gX1_add_X7_bit_n53 : GoodIn wsX1_add (wsX7_bit) := ggX1_add_X7_bit
theorem dX1_add_0 : decode cX1_add 0 = .ok (.aload_n 0, 1) := by decide +kernel
theorem dX1_add_1 : decode cX1_add 1 = .ok (.invokevirtual 49, 3) := by decide +kernel
theorem dX1_add_4 : decode cX1_add 4 = .ok (.ifCond .eq 4, 3) := by decide +kernel
theorem dX1_add_7 : decode cX1_add 7 = .ok (.return_, 1) := by decide +kernel
theorem dX1_add_8 : decode cX1_add 8 = .ok (.aload_n 0, 1) := by decide +kernel
theorem dX1_add_9 : decode cX1_add 9 = .ok (.getfield 9, 3) := by decide +kernel
theorem dX1_add_12 : decode cX1_add 12 = .ok (.aload_n 0, 1) := by decide +kernel
theorem dX1_add_13 : decode cX1_add 13 = .ok (.getfield 33, 3) := by decide +kernel
theorem dX1_add_16 : decode cX1_add 16 = .ok (.iload_n 1, 1) := by decide +kernel
theorem dX1_add_17 : decode cX1_add 17 = .ok (.iastore, 1) := by decide +kernel
theorem dX1_add_18 : decode cX1_add 18 = .ok (.aload_n 0, 1) := by decide +kernel
theorem dX1_add_19 : decode cX1_add 19 = .ok (.getfield 15, 3) := by decide +kernel
theorem dX1_add_22 : decode cX1_add 22 = .ok (.aload_n 0, 1) := by decide +kernel
theorem dX1_add_23 : decode cX1_add 23 = .ok (.getfield 33, 3) := by decide +kernel
theorem dX1_add_26 : decode cX1_add 26 = .ok (.iload_n 2, 1) := by decide +kernel
theorem dX1_add_27 : decode cX1_add 27 = .ok (.iastore, 1) := by decide +kernel
theorem dX1_add_28 : decode cX1_add 28 = .ok (.aload_n 0, 1) := by decide +kernel
theorem dX1_add_29 : decode cX1_add 29 = .ok (.getfield 18, 3) := by decide +kernel
theorem dX1_add_32 : decode cX1_add 32 = .ok (.aload_n 0, 1) := by decide +kernel
theorem dX1_add_33 : decode cX1_add 33 = .ok (.getfield 33, 3) := by decide +kernel
theorem dX1_add_36 : decode cX1_add 36 = .ok (.iload_n 3, 1) := by decide +kernel
theorem dX1_add_37 : decode cX1_add 37 = .ok (.iastore, 1) := by decide +kernel
theorem dX1_add_38 : decode cX1_add 38 = .ok (.aload_n 0, 1) := by decide +kernel
theorem dX1_add_39 : decode cX1_add 39 = .ok (.getfield 21, 3) := by decide +kernel
theorem dX1_add_42 : decode cX1_add 42 = .ok (.aload_n 0, 1) := by decide +kernel
theorem dX1_add_43 : decode cX1_add 43 = .ok (.getfield 33, 3) := by decide +kernel
theorem dX1_add_46 : decode cX1_add 46 = .ok (.iload 4, 2) := by decide +kernel
theorem dX1_add_48 : decode cX1_add 48 = .ok (.iastore, 1) := by decide +kernel
theorem dX1_add_49 : decode cX1_add 49 = .ok (.aload_n 0, 1) := by decide +kernel
theorem dX1_add_50 : decode cX1_add 50 = .ok (.getfield 24, 3) := by decide +kernel
theorem dX1_add_53 : decode cX1_add 53 = .ok (.aload_n 0, 1) := by decide +kernel
theorem dX1_add_54 : decode cX1_add 54 = .ok (.getfield 33, 3) := by decide +kernel
theorem dX1_add_57 : decode cX1_add 57 = .ok (.iload 5, 2) := by decide +kernel
theorem dX1_add_59 : decode cX1_add 59 = .ok (.iastore, 1) := by decide +kernel
theorem dX1_add_60 : decode cX1_add 60 = .ok (.aload_n 0, 1) := by decide +kernel
theorem dX1_add_61 : decode cX1_add 61 = .ok (.getfield 27, 3) := by decide +kernel
theorem dX1_add_64 : decode cX1_add 64 = .ok (.aload_n 0, 1) := by decide +kernel
theorem dX1_add_65 : decode cX1_add 65 = .ok (.getfield 33, 3) := by decide +kernel
theorem dX1_add_68 : decode cX1_add 68 = .ok (.iload 6, 2) := by decide +kernel
theorem dX1_add_70 : decode cX1_add 70 = .ok (.iastore, 1) := by decide +kernel
theorem dX1_add_71 : decode cX1_add 71 = .ok (.aload_n 0, 1) := by decide +kernel
theorem dX1_add_72 : decode cX1_add 72 = .ok (.dup, 1) := by decide +kernel
theorem dX1_add_73 : decode cX1_add 73 = .ok (.getfield 37, 3) := by decide +kernel
theorem dX1_add_76 : decode cX1_add 76 = .ok (.aload_n 0, 1) := by decide +kernel
theorem dX1_add_77 : decode cX1_add 77 = .ok (.getfield 33, 3) := by decide +kernel
theorem dX1_add_80 : decode cX1_add 80 = .ok (.invokestatic 53, 3) := by decide +kernel
theorem dX1_add_83 : decode cX1_add 83 = .ok (.ior, 1) := by decide +kernel
theorem dX1_add_84 : decode cX1_add 84 = .ok (.putfield 37, 3) := by decide +kernel
theorem dX1_add_87 : decode cX1_add 87 = .ok (.aload_n 0, 1) := by decide +kernel
theorem dX1_add_88 : decode cX1_add 88 = .ok (.dup, 1) := by decide +kernel
theorem dX1_add_89 : decode cX1_add 89 = .ok (.getfield 33, 3) := by decide +kernel
theorem dX1_add_92 : decode cX1_add 92 = .ok (.iconst 1, 1) := by decide +kernel
theorem dX1_add_93 : decode cX1_add 93 = .ok (.iadd, 1) := by decide +kernel
theorem dX1_add_94 : decode cX1_add 94 = .ok (.putfield 33, 3) := by decide +kernel
theorem dX1_add_97 : decode cX1_add 97 = .ok (.return_, 1) := by decide +kernel
theorem dX1_isFull_0 : decode cX1_isFull 0 = .ok (.aload_n 0, 1) := by decide +kernel
theorem dX1_isFull_1 : decode cX1_isFull 1 = .ok (.getfield 33, 3) := by decide +kernel
theorem dX1_isFull_4 : decode cX1_isFull 4 = .ok (.bipush 12, 2) := by decide +kernel
theorem dX1_isFull_6 : decode cX1_isFull 6 = .ok (.if_icmp .lt 7, 3) := by decide +kernel
theorem dX1_isFull_9 : decode cX1_isFull 9 = .ok (.iconst 1, 1) := by decide +kernel
theorem dX1_isFull_10 : decode cX1_isFull 10 = .ok (.goto 4, 3) := by decide +kernel
theorem dX1_isFull_13 : decode cX1_isFull 13 = .ok (.iconst 0, 1) := by decide +kernel
theorem dX1_isFull_14 : decode cX1_isFull 14 = .ok (.ireturn, 1) := by decide +kernel
theorem dX1_deedsAreFull_0 : decode cX1_deedsAreFull 0 = .ok (.aload_n 0, 1) := by decide +kernel
theorem dX1_deedsAreFull_1 : decode cX1_deedsAreFull 1 = .ok (.getfield 40, 3) := by decide +kernel
theorem dX1_deedsAreFull_4 : decode cX1_deedsAreFull 4 = .ok (.bipush 40, 2) := by decide +kernel
theorem dX1_deedsAreFull_6 : decode cX1_deedsAreFull 6 = .ok (.if_icmp .lt 7, 3) := by decide +kernel
theorem dX1_deedsAreFull_9 : decode cX1_deedsAreFull 9 = .ok (.iconst 1, 1) := by decide +kernel
theorem dX1_deedsAreFull_10 : decode cX1_deedsAreFull 10 = .ok (.goto 4, 3) := by decide +kernel
theorem dX1_deedsAreFull_13 : decode cX1_deedsAreFull 13 = .ok (.iconst 0, 1) := by decide +kernel
theorem dX1_deedsAreFull_14 : decode cX1_deedsAreFull 14 = .ok (.ireturn, 1) := by decide +kernel
theorem dX1_hasNumber_0 : decode cX1_hasNumber 0 = .ok (.iload_n 1, 1) := by decide +kernel
theorem dX1_hasNumber_1 : decode cX1_hasNumber 1 = .ok (.ifCond .lt 15, 3) := by decide +kernel
theorem dX1_hasNumber_4 : decode cX1_hasNumber 4 = .ok (.iload_n 1, 1) := by decide +kernel
theorem dX1_hasNumber_5 : decode cX1_hasNumber 5 = .ok (.aload_n 0, 1) := by decide +kernel
theorem dX1_hasNumber_6 : decode cX1_hasNumber 6 = .ok (.getfield 33, 3) := by decide +kernel
theorem dX1_hasNumber_9 : decode cX1_hasNumber 9 = .ok (.if_icmp .ge 7, 3) := by decide +kernel
theorem dX1_hasNumber_12 : decode cX1_hasNumber 12 = .ok (.iconst 1, 1) := by decide +kernel
theorem dX1_hasNumber_13 : decode cX1_hasNumber 13 = .ok (.goto 4, 3) := by decide +kernel
theorem dX1_hasNumber_16 : decode cX1_hasNumber 16 = .ok (.iconst 0, 1) := by decide +kernel
theorem dX1_hasNumber_17 : decode cX1_hasNumber 17 = .ok (.ireturn, 1) := by decide +kernel
theorem dX1_howMany_0 : decode cX1_howMany 0 = .ok (.aload_n 0, 1) := by decide +kernel
theorem dX1_howMany_1 : decode cX1_howMany 1 = .ok (.getfield 33, 3) := by decide +kernel
theorem dX1_howMany_4 : decode cX1_howMany 4 = .ok (.ireturn, 1) := by decide +kernel
theorem dX1_howManyDeeds_0 : decode cX1_howManyDeeds 0 = .ok (.aload_n 0, 1) := by decide +kernel
theorem dX1_howManyDeeds_1 : decode cX1_howManyDeeds 1 = .ok (.getfield 40, 3) := by decide +kernel
theorem dX1_howManyDeeds_4 : decode cX1_howManyDeeds 4 = .ok (.ireturn, 1) := by decide +kernel
theorem dX1_saidBits_0 : decode cX1_saidBits 0 = .ok (.aload_n 0, 1) := by decide +kernel
theorem dX1_saidBits_1 : decode cX1_saidBits 1 = .ok (.getfield 37, 3) := by decide +kernel
theorem dX1_saidBits_4 : decode cX1_saidBits 4 = .ok (.ireturn, 1) := by decide +kernel
set_option maxRecDepth 20000 in
theorem ggX1_isSaid_X7_hasBit : GoodIn wsX1_isSaid wsX7_hasBit := goodIn_r _ [4] (by decide +kernel) (by decide +kernel)
set_option maxRecDepth 20000 in
theorem gX1_isSaid_X7_hasBit_n57 : GoodIn wsX1_isSaid (wsX7_hasBit) := ggX1_isSaid_X7_hasBit
theorem dX1_isSaid_0 : decode cX1_isSaid 0 = .ok (.aload_n 0, 1) := by decide +kernel
theorem dX1_isSaid_1 : decode cX1_isSaid 1 = .ok (.getfield 37, 3) := by decide +kernel
theorem dX1_isSaid_4 : decode cX1_isSaid 4 = .ok (.iload_n 1, 1) := by decide +kernel
theorem dX1_isSaid_5 : decode cX1_isSaid 5 = .ok (.invokestatic 57, 3) := by decide +kernel
theorem dX1_isSaid_8 : decode cX1_isSaid 8 = .ok (.ireturn, 1) := by decide +kernel
theorem dX1_isOf_0 : decode cX1_isOf 0 = .ok (.aload_n 0, 1) := by decide +kernel
theorem dX1_isOf_1 : decode cX1_isOf 1 = .ok (.getfield 9, 3) := by decide +kernel
theorem dX1_isOf_4 : decode cX1_isOf 4 = .ok (.iload_n 1, 1) := by decide +kernel
theorem dX1_isOf_5 : decode cX1_isOf 5 = .ok (.iaload, 1) := by decide +kernel
theorem dX1_isOf_6 : decode cX1_isOf 6 = .ok (.istore_n 3, 1) := by decide +kernel
theorem dX1_isOf_7 : decode cX1_isOf 7 = .ok (.iload_n 3, 1) := by decide +kernel
theorem dX1_isOf_8 : decode cX1_isOf 8 = .ok (.iload_n 2, 1) := by decide +kernel
theorem dX1_isOf_9 : decode cX1_isOf 9 = .ok (.if_icmp .eq 23, 3) := by decide +kernel
theorem dX1_isOf_12 : decode cX1_isOf 12 = .ok (.iload_n 2, 1) := by decide +kernel
theorem dX1_isOf_13 : decode cX1_isOf 13 = .ok (.iconst 1, 1) := by decide +kernel
theorem dX1_isOf_14 : decode cX1_isOf 14 = .ok (.if_icmp .ne 8, 3) := by decide +kernel
theorem dX1_isOf_17 : decode cX1_isOf 17 = .ok (.iload_n 3, 1) := by decide +kernel
theorem dX1_isOf_18 : decode cX1_isOf 18 = .ok (.iconst 5, 1) := by decide +kernel
theorem dX1_isOf_19 : decode cX1_isOf 19 = .ok (.if_icmp .eq 13, 3) := by decide +kernel
theorem dX1_isOf_22 : decode cX1_isOf 22 = .ok (.iload_n 2, 1) := by decide +kernel
theorem dX1_isOf_23 : decode cX1_isOf 23 = .ok (.iconst 3, 1) := by decide +kernel
theorem dX1_isOf_24 : decode cX1_isOf 24 = .ok (.if_icmp .ne 12, 3) := by decide +kernel
theorem dX1_isOf_27 : decode cX1_isOf 27 = .ok (.iload_n 3, 1) := by decide +kernel
theorem dX1_isOf_28 : decode cX1_isOf 28 = .ok (.iconst 4, 1) := by decide +kernel
theorem dX1_isOf_29 : decode cX1_isOf 29 = .ok (.if_icmp .ne 7, 3) := by decide +kernel
theorem dX1_isOf_32 : decode cX1_isOf 32 = .ok (.iconst 1, 1) := by decide +kernel
theorem dX1_isOf_33 : decode cX1_isOf 33 = .ok (.goto 4, 3) := by decide +kernel
theorem dX1_isOf_36 : decode cX1_isOf 36 = .ok (.iconst 0, 1) := by decide +kernel
theorem dX1_isOf_37 : decode cX1_isOf 37 = .ok (.ireturn, 1) := by decide +kernel
set_option maxRecDepth 20000 in
theorem ggX1_fact_X1_isSaid : GoodIn wsX1_fact wsX1_isSaid := goodIn_r _ [11, 12, 13, 14, 15, 46, 47, 48, 49, 50, 51, 52, 53, 54, 55] (by decide +kernel) (by decide +kernel)
set_option maxRecDepth 20000 in
theorem gX1_fact_X1_isSaid : GoodIn wsX1_fact (wsV RX1 61 RX1 yX1_isSaid wsX1_isSaid) := goodIn_app (goodIn_of _ (by decide +kernel)) ggX1_fact_X1_isSaid
set_option maxRecDepth 20000 in
theorem ggX1_fact_X1_priceNow : GoodIn wsX1_fact wsX1_priceNow := goodIn_r _ [19, 12, 20, 21, 22, 10, 23, 24, 25, 26, 27, 2, 3, 28, 29, 30, 31, 32, 33, 14, 34, 35, 36, 37, 38, 39, 40, 41, 42, 43, 44, 45, 1, 4, 5, 46, 47, 48, 49, 50, 51, 52, 53, 54, 55] (by decide +kernel) (by decide +kernel)
set_option maxRecDepth 20000 in
theorem gX1_fact_X1_priceNow : GoodIn wsX1_fact (wsV RX1 65 RX1 yX1_priceNow wsX1_priceNow) := goodIn_app (goodIn_of _ (by decide +kernel)) ggX1_fact_X1_priceNow
theorem dX1_fact_0 : decode cX1_fact 0 = .ok (.iload_n 2, 1) := by decide +kernel
theorem dX1_fact_1 : decode cX1_fact 1 = .ok (.tableswitch 99 0 6 #[43, 50, 57, 64, 71, 78, 85], 43) := by decide +kernel
theorem dX1_fact_44 : decode cX1_fact 44 = .ok (.aload_n 0, 1) := by decide +kernel
theorem dX1_fact_45 : decode cX1_fact 45 = .ok (.getfield 9, 3) := by decide +kernel
theorem dX1_fact_48 : decode cX1_fact 48 = .ok (.iload_n 1, 1) := by decide +kernel
theorem dX1_fact_49 : decode cX1_fact 49 = .ok (.iaload, 1) := by decide +kernel
theorem dX1_fact_50 : decode cX1_fact 50 = .ok (.ireturn, 1) := by decide +kernel
theorem dX1_fact_51 : decode cX1_fact 51 = .ok (.aload_n 0, 1) := by decide +kernel
theorem dX1_fact_52 : decode cX1_fact 52 = .ok (.getfield 15, 3) := by decide +kernel
theorem dX1_fact_55 : decode cX1_fact 55 = .ok (.iload_n 1, 1) := by decide +kernel
theorem dX1_fact_56 : decode cX1_fact 56 = .ok (.iaload, 1) := by decide +kernel
theorem dX1_fact_57 : decode cX1_fact 57 = .ok (.ireturn, 1) := by decide +kernel
theorem dX1_fact_58 : decode cX1_fact 58 = .ok (.aload_n 0, 1) := by decide +kernel
theorem dX1_fact_59 : decode cX1_fact 59 = .ok (.getfield 18, 3) := by decide +kernel
theorem dX1_fact_62 : decode cX1_fact 62 = .ok (.iload_n 1, 1) := by decide +kernel
theorem dX1_fact_63 : decode cX1_fact 63 = .ok (.iaload, 1) := by decide +kernel
theorem dX1_fact_64 : decode cX1_fact 64 = .ok (.ireturn, 1) := by decide +kernel
theorem dX1_fact_65 : decode cX1_fact 65 = .ok (.aload_n 0, 1) := by decide +kernel
theorem dX1_fact_66 : decode cX1_fact 66 = .ok (.getfield 21, 3) := by decide +kernel
theorem dX1_fact_69 : decode cX1_fact 69 = .ok (.iload_n 1, 1) := by decide +kernel
theorem dX1_fact_70 : decode cX1_fact 70 = .ok (.iaload, 1) := by decide +kernel
theorem dX1_fact_71 : decode cX1_fact 71 = .ok (.ireturn, 1) := by decide +kernel
theorem dX1_fact_72 : decode cX1_fact 72 = .ok (.aload_n 0, 1) := by decide +kernel
theorem dX1_fact_73 : decode cX1_fact 73 = .ok (.getfield 24, 3) := by decide +kernel
theorem dX1_fact_76 : decode cX1_fact 76 = .ok (.iload_n 1, 1) := by decide +kernel
theorem dX1_fact_77 : decode cX1_fact 77 = .ok (.iaload, 1) := by decide +kernel
theorem dX1_fact_78 : decode cX1_fact 78 = .ok (.ireturn, 1) := by decide +kernel
theorem dX1_fact_79 : decode cX1_fact 79 = .ok (.aload_n 0, 1) := by decide +kernel
theorem dX1_fact_80 : decode cX1_fact 80 = .ok (.getfield 27, 3) := by decide +kernel
theorem dX1_fact_83 : decode cX1_fact 83 = .ok (.iload_n 1, 1) := by decide +kernel
theorem dX1_fact_84 : decode cX1_fact 84 = .ok (.iaload, 1) := by decide +kernel
theorem dX1_fact_85 : decode cX1_fact 85 = .ok (.ireturn, 1) := by decide +kernel
theorem dX1_fact_86 : decode cX1_fact 86 = .ok (.aload_n 0, 1) := by decide +kernel
theorem dX1_fact_87 : decode cX1_fact 87 = .ok (.iload_n 1, 1) := by decide +kernel
theorem dX1_fact_88 : decode cX1_fact 88 = .ok (.invokevirtual 61, 3) := by decide +kernel
theorem dX1_fact_91 : decode cX1_fact 91 = .ok (.ifCond .eq 7, 3) := by decide +kernel
theorem dX1_fact_94 : decode cX1_fact 94 = .ok (.iconst 1, 1) := by decide +kernel
theorem dX1_fact_95 : decode cX1_fact 95 = .ok (.goto 4, 3) := by decide +kernel
theorem dX1_fact_98 : decode cX1_fact 98 = .ok (.iconst 0, 1) := by decide +kernel
theorem dX1_fact_99 : decode cX1_fact 99 = .ok (.ireturn, 1) := by decide +kernel
theorem dX1_fact_100 : decode cX1_fact 100 = .ok (.aload_n 0, 1) := by decide +kernel
theorem dX1_fact_101 : decode cX1_fact 101 = .ok (.iload_n 1, 1) := by decide +kernel
theorem dX1_fact_102 : decode cX1_fact 102 = .ok (.invokevirtual 65, 3) := by decide +kernel
theorem dX1_fact_105 : decode cX1_fact 105 = .ok (.ireturn, 1) := by decide +kernel
theorem dX1_whoOf_0 : decode cX1_whoOf 0 = .ok (.aload_n 0, 1) := by decide +kernel
theorem dX1_whoOf_1 : decode cX1_whoOf 1 = .ok (.getfield 15, 3) := by decide +kernel
theorem dX1_whoOf_4 : decode cX1_whoOf 4 = .ok (.iload_n 1, 1) := by decide +kernel
theorem dX1_whoOf_5 : decode cX1_whoOf 5 = .ok (.iaload, 1) := by decide +kernel
theorem dX1_whoOf_6 : decode cX1_whoOf 6 = .ok (.ireturn, 1) := by decide +kernel
theorem dX1_toWhomOf_0 : decode cX1_toWhomOf 0 = .ok (.aload_n 0, 1) := by decide +kernel
theorem dX1_toWhomOf_1 : decode cX1_toWhomOf 1 = .ok (.getfield 18, 3) := by decide +kernel
theorem dX1_toWhomOf_4 : decode cX1_toWhomOf 4 = .ok (.iload_n 1, 1) := by decide +kernel
theorem dX1_toWhomOf_5 : decode cX1_toWhomOf 5 = .ok (.iaload, 1) := by decide +kernel
theorem dX1_toWhomOf_6 : decode cX1_toWhomOf 6 = .ok (.ireturn, 1) := by decide +kernel
theorem dX1_topicOf_0 : decode cX1_topicOf 0 = .ok (.aload_n 0, 1) := by decide +kernel
theorem dX1_topicOf_1 : decode cX1_topicOf 1 = .ok (.getfield 21, 3) := by decide +kernel
theorem dX1_topicOf_4 : decode cX1_topicOf 4 = .ok (.iload_n 1, 1) := by decide +kernel
theorem dX1_topicOf_5 : decode cX1_topicOf 5 = .ok (.iaload, 1) := by decide +kernel
theorem dX1_topicOf_6 : decode cX1_topicOf 6 = .ok (.ireturn, 1) := by decide +kernel
theorem dX1_weightOf_0 : decode cX1_weightOf 0 = .ok (.aload_n 0, 1) := by decide +kernel
theorem dX1_weightOf_1 : decode cX1_weightOf 1 = .ok (.getfield 24, 3) := by decide +kernel
theorem dX1_weightOf_4 : decode cX1_weightOf 4 = .ok (.iload_n 1, 1) := by decide +kernel
theorem dX1_weightOf_5 : decode cX1_weightOf 5 = .ok (.iaload, 1) := by decide +kernel
theorem dX1_weightOf_6 : decode cX1_weightOf 6 = .ok (.ireturn, 1) := by decide +kernel
theorem dX1_answeredBy_0 : decode cX1_answeredBy 0 = .ok (.aload_n 0, 1) := by decide +kernel
theorem dX1_answeredBy_1 : decode cX1_answeredBy 1 = .ok (.getfield 27, 3) := by decide +kernel
theorem dX1_answeredBy_4 : decode cX1_answeredBy 4 = .ok (.iload_n 1, 1) := by decide +kernel
theorem dX1_answeredBy_5 : decode cX1_answeredBy 5 = .ok (.iaload, 1) := by decide +kernel
theorem dX1_answeredBy_6 : decode cX1_answeredBy 6 = .ok (.ireturn, 1) := by decide +kernel
set_option maxRecDepth 20000 in
theorem ggX1_noteComing_X1_noteDeed : GoodIn wsX1_noteComing wsX1_noteDeed := goodIn_r _ [5, 6, 7, 8, 9, 10, 4, 11, 12, 13, 14, 15, 16, 17, 18, 19, 20, 21] (by decide +kernel) (by decide +kernel)
set_option maxRecDepth 20000 in
theorem gX1_noteComing_X1_noteDeed : GoodIn wsX1_noteComing (wsV RX1 68 RX1 yX1_noteDeed wsX1_noteDeed) := goodIn_app (goodIn_of _ (by decide +kernel)) ggX1_noteComing_X1_noteDeed
theorem dX1_noteComing_0 : decode cX1_noteComing 0 = .ok (.aload_n 0, 1) := by decide +kernel
theorem dX1_noteComing_1 : decode cX1_noteComing 1 = .ok (.iconst (-1), 1) := by decide +kernel
theorem dX1_noteComing_2 : decode cX1_noteComing 2 = .ok (.invokevirtual 68, 3) := by decide +kernel
theorem dX1_noteComing_5 : decode cX1_noteComing 5 = .ok (.return_, 1) := by decide +kernel
set_option maxRecDepth 20000 in
theorem ggX1_takeBack_X1_hasNumber : GoodIn wsX1_takeBack wsX1_hasNumber := goodIn_r _ [6, 7, 53, 54, 55, 56, 57, 58, 59, 60, 61, 62] (by decide +kernel) (by decide +kernel)
set_option maxRecDepth 20000 in
theorem gX1_takeBack_X1_hasNumber : GoodIn wsX1_takeBack (wsV RX1 72 RX1 yX1_hasNumber wsX1_hasNumber) := goodIn_app (goodIn_of _ (by decide +kernel)) ggX1_takeBack_X1_hasNumber
set_option maxRecDepth 20000 in
theorem ggX1_takeBack_X1_priceNow : GoodIn wsX1_takeBack wsX1_priceNow := goodIn_r _ [11, 1, 12, 13, 14, 5, 15, 16, 17, 18, 19, 20, 21, 22, 23, 24, 25, 7, 26, 27, 28, 29, 30, 31, 32, 33, 34, 35, 36, 37, 38, 39, 40, 41, 42, 53, 54, 55, 56, 57, 58, 59, 60, 61, 62] (by decide +kernel) (by decide +kernel)
set_option maxRecDepth 20000 in
theorem gX1_takeBack_X1_priceNow : GoodIn wsX1_takeBack (wsV RX1 65 RX1 yX1_priceNow wsX1_priceNow) := goodIn_app (goodIn_of _ (by decide +kernel)) ggX1_takeBack_X1_priceNow
set_option maxRecDepth 20000 in
theorem ggX1_takeBack_X7_bit : GoodIn wsX1_takeBack wsX7_bit := goodIn_r _ [28] (by decide +kernel) (by decide +kernel)
set_option maxRecDepth 20000 in
theorem gX1_takeBack_X7_bit_n53 : GoodIn wsX1_takeBack (wsX7_bit) := ggX1_takeBack_X7_bit
set_option maxRecDepth 20000 in
theorem ggX1_takeBack_X1_noteDeed : GoodIn wsX1_takeBack wsX1_noteDeed := goodIn_r _ [46, 47, 48, 49, 50, 51, 5, 52, 53, 54, 55, 56, 57, 58, 59, 60, 61, 62] (by decide +kernel) (by decide +kernel)
set_option maxRecDepth 20000 in
theorem gX1_takeBack_X1_noteDeed : GoodIn wsX1_takeBack (wsV RX1 68 RX1 yX1_noteDeed wsX1_noteDeed) := goodIn_app (goodIn_of _ (by decide +kernel)) ggX1_takeBack_X1_noteDeed
theorem dX1_takeBack_0 : decode cX1_takeBack 0 = .ok (.aload_n 0, 1) := by decide +kernel
theorem dX1_takeBack_1 : decode cX1_takeBack 1 = .ok (.iload_n 1, 1) := by decide +kernel
theorem dX1_takeBack_2 : decode cX1_takeBack 2 = .ok (.invokevirtual 72, 3) := by decide +kernel
theorem dX1_takeBack_5 : decode cX1_takeBack 5 = .ok (.ifCond .ne 5, 3) := by decide +kernel
theorem dX1_takeBack_8 : decode cX1_takeBack 8 = .ok (.iconst 0, 1) := by decide +kernel
theorem dX1_takeBack_9 : decode cX1_takeBack 9 = .ok (.ireturn, 1) := by decide +kernel
theorem dX1_takeBack_10 : decode cX1_takeBack 10 = .ok (.aload_n 0, 1) := by decide +kernel
theorem dX1_takeBack_11 : decode cX1_takeBack 11 = .ok (.iload_n 1, 1) := by decide +kernel
theorem dX1_takeBack_12 : decode cX1_takeBack 12 = .ok (.invokevirtual 65, 3) := by decide +kernel
theorem dX1_takeBack_15 : decode cX1_takeBack 15 = .ok (.istore_n 2, 1) := by decide +kernel
theorem dX1_takeBack_16 : decode cX1_takeBack 16 = .ok (.aload_n 0, 1) := by decide +kernel
theorem dX1_takeBack_17 : decode cX1_takeBack 17 = .ok (.dup, 1) := by decide +kernel
theorem dX1_takeBack_18 : decode cX1_takeBack 18 = .ok (.getfield 37, 3) := by decide +kernel
theorem dX1_takeBack_21 : decode cX1_takeBack 21 = .ok (.iload_n 1, 1) := by decide +kernel
theorem dX1_takeBack_22 : decode cX1_takeBack 22 = .ok (.invokestatic 53, 3) := by decide +kernel
theorem dX1_takeBack_25 : decode cX1_takeBack 25 = .ok (.iconst (-1), 1) := by decide +kernel
theorem dX1_takeBack_26 : decode cX1_takeBack 26 = .ok (.ixor, 1) := by decide +kernel
theorem dX1_takeBack_27 : decode cX1_takeBack 27 = .ok (.iand, 1) := by decide +kernel
theorem dX1_takeBack_28 : decode cX1_takeBack 28 = .ok (.putfield 37, 3) := by decide +kernel
theorem dX1_takeBack_31 : decode cX1_takeBack 31 = .ok (.aload_n 0, 1) := by decide +kernel
theorem dX1_takeBack_32 : decode cX1_takeBack 32 = .ok (.iload_n 1, 1) := by decide +kernel
theorem dX1_takeBack_33 : decode cX1_takeBack 33 = .ok (.invokevirtual 68, 3) := by decide +kernel
theorem dX1_takeBack_36 : decode cX1_takeBack 36 = .ok (.iload_n 2, 1) := by decide +kernel
theorem dX1_takeBack_37 : decode cX1_takeBack 37 = .ok (.ireturn, 1) := by decide +kernel
set_option maxRecDepth 20000 in
theorem ggX1_noteDeed_X1_deedsAreFull : GoodIn wsX1_noteDeed wsX1_deedsAreFull := goodIn_r _ [7, 2, 8, 9, 10, 11, 12, 13, 14, 15, 16, 17] (by decide +kernel) (by decide +kernel)
set_option maxRecDepth 20000 in
theorem gX1_noteDeed_X1_deedsAreFull : GoodIn wsX1_noteDeed (wsV RX1 75 RX1 yX1_deedsAreFull wsX1_deedsAreFull) := goodIn_app (goodIn_of _ (by decide +kernel)) ggX1_noteDeed_X1_deedsAreFull
theorem dX1_noteDeed_0 : decode cX1_noteDeed 0 = .ok (.aload_n 0, 1) := by decide +kernel
theorem dX1_noteDeed_1 : decode cX1_noteDeed 1 = .ok (.invokevirtual 75, 3) := by decide +kernel
theorem dX1_noteDeed_4 : decode cX1_noteDeed 4 = .ok (.ifCond .ne 23, 3) := by decide +kernel
theorem dX1_noteDeed_7 : decode cX1_noteDeed 7 = .ok (.aload_n 0, 1) := by decide +kernel
theorem dX1_noteDeed_8 : decode cX1_noteDeed 8 = .ok (.getfield 30, 3) := by decide +kernel
theorem dX1_noteDeed_11 : decode cX1_noteDeed 11 = .ok (.aload_n 0, 1) := by decide +kernel
theorem dX1_noteDeed_12 : decode cX1_noteDeed 12 = .ok (.getfield 40, 3) := by decide +kernel
theorem dX1_noteDeed_15 : decode cX1_noteDeed 15 = .ok (.iload_n 1, 1) := by decide +kernel
theorem dX1_noteDeed_16 : decode cX1_noteDeed 16 = .ok (.iastore, 1) := by decide +kernel
theorem dX1_noteDeed_17 : decode cX1_noteDeed 17 = .ok (.aload_n 0, 1) := by decide +kernel
theorem dX1_noteDeed_18 : decode cX1_noteDeed 18 = .ok (.dup, 1) := by decide +kernel
theorem dX1_noteDeed_19 : decode cX1_noteDeed 19 = .ok (.getfield 40, 3) := by decide +kernel
theorem dX1_noteDeed_22 : decode cX1_noteDeed 22 = .ok (.iconst 1, 1) := by decide +kernel
theorem dX1_noteDeed_23 : decode cX1_noteDeed 23 = .ok (.iadd, 1) := by decide +kernel
theorem dX1_noteDeed_24 : decode cX1_noteDeed 24 = .ok (.putfield 40, 3) := by decide +kernel
theorem dX1_noteDeed_27 : decode cX1_noteDeed 27 = .ok (.return_, 1) := by decide +kernel
set_option maxRecDepth 20000 in
theorem ggX1_undoFrom_X7_bit : GoodIn wsX1_undoFrom wsX7_bit := goodIn_r _ [7] (by decide +kernel) (by decide +kernel)
set_option maxRecDepth 20000 in
theorem gX1_undoFrom_X7_bit_n53 : GoodIn wsX1_undoFrom (wsX7_bit) := ggX1_undoFrom_X7_bit
theorem dX1_undoFrom_0 : decode cX1_undoFrom 0 = .ok (.aload_n 0, 1) := by decide +kernel
theorem dX1_undoFrom_1 : decode cX1_undoFrom 1 = .ok (.getfield 40, 3) := by decide +kernel
theorem dX1_undoFrom_4 : decode cX1_undoFrom 4 = .ok (.iconst 1, 1) := by decide +kernel
theorem dX1_undoFrom_5 : decode cX1_undoFrom 5 = .ok (.isub, 1) := by decide +kernel
theorem dX1_undoFrom_6 : decode cX1_undoFrom 6 = .ok (.istore_n 2, 1) := by decide +kernel
theorem dX1_undoFrom_7 : decode cX1_undoFrom 7 = .ok (.iload_n 2, 1) := by decide +kernel
theorem dX1_undoFrom_8 : decode cX1_undoFrom 8 = .ok (.iload_n 1, 1) := by decide +kernel
theorem dX1_undoFrom_9 : decode cX1_undoFrom 9 = .ok (.if_icmp .lt 68, 3) := by decide +kernel
theorem dX1_undoFrom_12 : decode cX1_undoFrom 12 = .ok (.aload_n 0, 1) := by decide +kernel
theorem dX1_undoFrom_13 : decode cX1_undoFrom 13 = .ok (.getfield 30, 3) := by decide +kernel
theorem dX1_undoFrom_16 : decode cX1_undoFrom 16 = .ok (.iload_n 2, 1) := by decide +kernel
theorem dX1_undoFrom_17 : decode cX1_undoFrom 17 = .ok (.iaload, 1) := by decide +kernel
theorem dX1_undoFrom_18 : decode cX1_undoFrom 18 = .ok (.iconst (-1), 1) := by decide +kernel
theorem dX1_undoFrom_19 : decode cX1_undoFrom 19 = .ok (.if_icmp .ne 34, 3) := by decide +kernel
theorem dX1_undoFrom_22 : decode cX1_undoFrom 22 = .ok (.aload_n 0, 1) := by decide +kernel
theorem dX1_undoFrom_23 : decode cX1_undoFrom 23 = .ok (.dup, 1) := by decide +kernel
theorem dX1_undoFrom_24 : decode cX1_undoFrom 24 = .ok (.getfield 33, 3) := by decide +kernel
theorem dX1_undoFrom_27 : decode cX1_undoFrom 27 = .ok (.iconst 1, 1) := by decide +kernel
theorem dX1_undoFrom_28 : decode cX1_undoFrom 28 = .ok (.isub, 1) := by decide +kernel
theorem dX1_undoFrom_29 : decode cX1_undoFrom 29 = .ok (.putfield 33, 3) := by decide +kernel
theorem dX1_undoFrom_32 : decode cX1_undoFrom 32 = .ok (.aload_n 0, 1) := by decide +kernel
theorem dX1_undoFrom_33 : decode cX1_undoFrom 33 = .ok (.dup, 1) := by decide +kernel
theorem dX1_undoFrom_34 : decode cX1_undoFrom 34 = .ok (.getfield 37, 3) := by decide +kernel
theorem dX1_undoFrom_37 : decode cX1_undoFrom 37 = .ok (.aload_n 0, 1) := by decide +kernel
theorem dX1_undoFrom_38 : decode cX1_undoFrom 38 = .ok (.getfield 33, 3) := by decide +kernel
theorem dX1_undoFrom_41 : decode cX1_undoFrom 41 = .ok (.invokestatic 53, 3) := by decide +kernel
theorem dX1_undoFrom_44 : decode cX1_undoFrom 44 = .ok (.iconst (-1), 1) := by decide +kernel
theorem dX1_undoFrom_45 : decode cX1_undoFrom 45 = .ok (.ixor, 1) := by decide +kernel
theorem dX1_undoFrom_46 : decode cX1_undoFrom 46 = .ok (.iand, 1) := by decide +kernel
theorem dX1_undoFrom_47 : decode cX1_undoFrom 47 = .ok (.putfield 37, 3) := by decide +kernel
theorem dX1_undoFrom_50 : decode cX1_undoFrom 50 = .ok (.goto 21, 3) := by decide +kernel
theorem dX1_undoFrom_53 : decode cX1_undoFrom 53 = .ok (.aload_n 0, 1) := by decide +kernel
theorem dX1_undoFrom_54 : decode cX1_undoFrom 54 = .ok (.dup, 1) := by decide +kernel
theorem dX1_undoFrom_55 : decode cX1_undoFrom 55 = .ok (.getfield 37, 3) := by decide +kernel
theorem dX1_undoFrom_58 : decode cX1_undoFrom 58 = .ok (.aload_n 0, 1) := by decide +kernel
theorem dX1_undoFrom_59 : decode cX1_undoFrom 59 = .ok (.getfield 30, 3) := by decide +kernel
theorem dX1_undoFrom_62 : decode cX1_undoFrom 62 = .ok (.iload_n 2, 1) := by decide +kernel
theorem dX1_undoFrom_63 : decode cX1_undoFrom 63 = .ok (.iaload, 1) := by decide +kernel
theorem dX1_undoFrom_64 : decode cX1_undoFrom 64 = .ok (.invokestatic 53, 3) := by decide +kernel
theorem dX1_undoFrom_67 : decode cX1_undoFrom 67 = .ok (.ior, 1) := by decide +kernel
theorem dX1_undoFrom_68 : decode cX1_undoFrom 68 = .ok (.putfield 37, 3) := by decide +kernel
theorem dX1_undoFrom_71 : decode cX1_undoFrom 71 = .ok (.iinc 2 (-1), 3) := by decide +kernel
theorem dX1_undoFrom_74 : decode cX1_undoFrom 74 = .ok (.goto (-67), 3) := by decide +kernel
theorem dX1_undoFrom_77 : decode cX1_undoFrom 77 = .ok (.aload_n 0, 1) := by decide +kernel
theorem dX1_undoFrom_78 : decode cX1_undoFrom 78 = .ok (.iload_n 1, 1) := by decide +kernel
theorem dX1_undoFrom_79 : decode cX1_undoFrom 79 = .ok (.putfield 40, 3) := by decide +kernel
theorem dX1_undoFrom_82 : decode cX1_undoFrom 82 = .ok (.return_, 1) := by decide +kernel
set_option maxRecDepth 20000 in
theorem ggX1_between_X7_bit : GoodIn wsX1_between wsX7_bit := goodIn_r _ [6] (by decide +kernel) (by decide +kernel)
set_option maxRecDepth 20000 in
theorem gX1_between_X7_bit_n53 : GoodIn wsX1_between (wsX7_bit) := ggX1_between_X7_bit
theorem dX1_between_0 : decode cX1_between 0 = .ok (.iconst 0, 1) := by decide +kernel
theorem dX1_between_1 : decode cX1_between 1 = .ok (.istore_n 3, 1) := by decide +kernel
theorem dX1_between_2 : decode cX1_between 2 = .ok (.iconst 0, 1) := by decide +kernel
theorem dX1_between_3 : decode cX1_between 3 = .ok (.istore 4, 2) := by decide +kernel
theorem dX1_between_5 : decode cX1_between 5 = .ok (.iload 4, 2) := by decide +kernel
theorem dX1_between_7 : decode cX1_between 7 = .ok (.aload_n 0, 1) := by decide +kernel
theorem dX1_between_8 : decode cX1_between 8 = .ok (.getfield 33, 3) := by decide +kernel
theorem dX1_between_11 : decode cX1_between 11 = .ok (.if_icmp .ge 61, 3) := by decide +kernel
theorem dX1_between_14 : decode cX1_between 14 = .ok (.aload_n 0, 1) := by decide +kernel
theorem dX1_between_15 : decode cX1_between 15 = .ok (.getfield 15, 3) := by decide +kernel
theorem dX1_between_18 : decode cX1_between 18 = .ok (.iload 4, 2) := by decide +kernel
theorem dX1_between_20 : decode cX1_between 20 = .ok (.iaload, 1) := by decide +kernel
theorem dX1_between_21 : decode cX1_between 21 = .ok (.iload_n 1, 1) := by decide +kernel
theorem dX1_between_22 : decode cX1_between 22 = .ok (.if_icmp .ne 14, 3) := by decide +kernel
theorem dX1_between_25 : decode cX1_between 25 = .ok (.aload_n 0, 1) := by decide +kernel
theorem dX1_between_26 : decode cX1_between 26 = .ok (.getfield 18, 3) := by decide +kernel
theorem dX1_between_29 : decode cX1_between 29 = .ok (.iload 4, 2) := by decide +kernel
theorem dX1_between_31 : decode cX1_between 31 = .ok (.iaload, 1) := by decide +kernel
theorem dX1_between_32 : decode cX1_between 32 = .ok (.iload_n 2, 1) := by decide +kernel
theorem dX1_between_33 : decode cX1_between 33 = .ok (.if_icmp .eq 25, 3) := by decide +kernel
theorem dX1_between_36 : decode cX1_between 36 = .ok (.aload_n 0, 1) := by decide +kernel
theorem dX1_between_37 : decode cX1_between 37 = .ok (.getfield 15, 3) := by decide +kernel
theorem dX1_between_40 : decode cX1_between 40 = .ok (.iload 4, 2) := by decide +kernel
theorem dX1_between_42 : decode cX1_between 42 = .ok (.iaload, 1) := by decide +kernel
theorem dX1_between_43 : decode cX1_between 43 = .ok (.iload_n 2, 1) := by decide +kernel
theorem dX1_between_44 : decode cX1_between 44 = .ok (.if_icmp .ne 22, 3) := by decide +kernel
theorem dX1_between_47 : decode cX1_between 47 = .ok (.aload_n 0, 1) := by decide +kernel
theorem dX1_between_48 : decode cX1_between 48 = .ok (.getfield 18, 3) := by decide +kernel
theorem dX1_between_51 : decode cX1_between 51 = .ok (.iload 4, 2) := by decide +kernel
theorem dX1_between_53 : decode cX1_between 53 = .ok (.iaload, 1) := by decide +kernel
theorem dX1_between_54 : decode cX1_between 54 = .ok (.iload_n 1, 1) := by decide +kernel
theorem dX1_between_55 : decode cX1_between 55 = .ok (.if_icmp .ne 11, 3) := by decide +kernel
theorem dX1_between_58 : decode cX1_between 58 = .ok (.iload_n 3, 1) := by decide +kernel
theorem dX1_between_59 : decode cX1_between 59 = .ok (.iload 4, 2) := by decide +kernel
theorem dX1_between_61 : decode cX1_between 61 = .ok (.invokestatic 53, 3) := by decide +kernel
theorem dX1_between_64 : decode cX1_between 64 = .ok (.ior, 1) := by decide +kernel
theorem dX1_between_65 : decode cX1_between 65 = .ok (.istore_n 3, 1) := by decide +kernel
theorem dX1_between_66 : decode cX1_between 66 = .ok (.iinc 4 1, 3) := by decide +kernel
theorem dX1_between_69 : decode cX1_between 69 = .ok (.goto (-64), 3) := by decide +kernel
theorem dX1_between_72 : decode cX1_between 72 = .ok (.iload_n 3, 1) := by decide +kernel
theorem dX1_between_73 : decode cX1_between 73 = .ok (.ireturn, 1) := by decide +kernel
set_option maxRecDepth 20000 in
theorem ggX1_others_X1_between : GoodIn wsX1_others wsX1_between := goodIn_r _ [7, 8, 1, 2, 9, 10, 11, 12, 13, 14, 15, 16, 17, 18, 19, 20, 21] (by decide +kernel) (by decide +kernel)
set_option maxRecDepth 20000 in
theorem gX1_others_X1_between : GoodIn wsX1_others (wsV RX1 78 RX1 yX1_between wsX1_between) := goodIn_app (goodIn_of _ (by decide +kernel)) ggX1_others_X1_between
set_option maxRecDepth 20000 in
theorem ggX1_others_X7_bit : GoodIn wsX1_others wsX7_bit := goodIn_r _ [11] (by decide +kernel) (by decide +kernel)
set_option maxRecDepth 20000 in
theorem gX1_others_X7_bit_n53 : GoodIn wsX1_others (wsX7_bit) := ggX1_others_X7_bit
theorem dX1_others_0 : decode cX1_others 0 = .ok (.aload_n 0, 1) := by decide +kernel
theorem dX1_others_1 : decode cX1_others 1 = .ok (.aload_n 0, 1) := by decide +kernel
theorem dX1_others_2 : decode cX1_others 2 = .ok (.getfield 15, 3) := by decide +kernel
theorem dX1_others_5 : decode cX1_others 5 = .ok (.iload_n 1, 1) := by decide +kernel
theorem dX1_others_6 : decode cX1_others 6 = .ok (.iaload, 1) := by decide +kernel
theorem dX1_others_7 : decode cX1_others 7 = .ok (.aload_n 0, 1) := by decide +kernel
theorem dX1_others_8 : decode cX1_others 8 = .ok (.getfield 18, 3) := by decide +kernel
theorem dX1_others_11 : decode cX1_others 11 = .ok (.iload_n 1, 1) := by decide +kernel
theorem dX1_others_12 : decode cX1_others 12 = .ok (.iaload, 1) := by decide +kernel
theorem dX1_others_13 : decode cX1_others 13 = .ok (.invokevirtual 78, 3) := by decide +kernel
theorem dX1_others_16 : decode cX1_others 16 = .ok (.iload_n 1, 1) := by decide +kernel
theorem dX1_others_17 : decode cX1_others 17 = .ok (.invokestatic 53, 3) := by decide +kernel
theorem dX1_others_20 : decode cX1_others 20 = .ok (.iconst (-1), 1) := by decide +kernel
theorem dX1_others_21 : decode cX1_others 21 = .ok (.ixor, 1) := by decide +kernel
theorem dX1_others_22 : decode cX1_others 22 = .ok (.iand, 1) := by decide +kernel
theorem dX1_others_23 : decode cX1_others 23 = .ok (.ireturn, 1) := by decide +kernel
set_option maxRecDepth 20000 in
theorem ggX1_heatNow_X1_others : GoodIn wsX1_heatNow wsX1_others := goodIn_r _ [6, 7, 8, 9, 10, 11, 5, 12, 13, 14, 15, 16, 24, 25, 26, 27, 28, 29, 30, 31, 32, 33] (by decide +kernel) (by decide +kernel)
set_option maxRecDepth 20000 in
theorem gX1_heatNow_X1_others : GoodIn wsX1_heatNow (wsV RX1 82 RX1 yX1_others wsX1_others) := goodIn_app (goodIn_of _ (by decide +kernel)) ggX1_heatNow_X1_others
set_option maxRecDepth 20000 in
theorem ggX1_heatNow_J6_bitCount_0f7a4 : GoodIn wsX1_heatNow wsJ6_bitCount_0f7a4 := goodIn_r _ [20, 21, 22, 23] (by decide +kernel) (by decide +kernel)
set_option maxRecDepth 20000 in
theorem gX1_heatNow_J6_bitCount_0f7a4 : GoodIn wsX1_heatNow (va_wsS RX1 85 yJ6_bitCount_0f7a4 wsJ6_bitCount_0f7a4) := goodIn_app (goodIn_of _ (by decide +kernel)) ggX1_heatNow_J6_bitCount_0f7a4
theorem dX1_heatNow_0 : decode cX1_heatNow 0 = .ok (.aload_n 0, 1) := by decide +kernel
theorem dX1_heatNow_1 : decode cX1_heatNow 1 = .ok (.iload_n 1, 1) := by decide +kernel
theorem dX1_heatNow_2 : decode cX1_heatNow 2 = .ok (.invokevirtual 82, 3) := by decide +kernel
theorem dX1_heatNow_5 : decode cX1_heatNow 5 = .ok (.aload_n 0, 1) := by decide +kernel
theorem dX1_heatNow_6 : decode cX1_heatNow 6 = .ok (.getfield 37, 3) := by decide +kernel
theorem dX1_heatNow_9 : decode cX1_heatNow 9 = .ok (.iand, 1) := by decide +kernel
theorem dX1_heatNow_10 : decode cX1_heatNow 10 = .ok (.invokestatic 85, 3) := by decide +kernel
theorem dX1_heatNow_13 : decode cX1_heatNow 13 = .ok (.ireturn, 1) := by decide +kernel
set_option maxRecDepth 20000 in
theorem ggX1_priceNow_X1_priceAmong : GoodIn wsX1_priceNow wsX1_priceAmong := goodIn_r _ [6, 7, 8, 9, 5, 10, 11, 12, 13, 14, 15, 16, 17, 18, 19, 20, 21, 22, 23, 24, 25, 26, 27, 28, 29, 30, 31, 32, 33, 34, 35, 36, 37, 38, 39, 40, 41, 42, 43, 44] (by decide +kernel) (by decide +kernel)
set_option maxRecDepth 20000 in
theorem gX1_priceNow_X1_priceAmong : GoodIn wsX1_priceNow (wsV RX1 90 RX1 yX1_priceAmong wsX1_priceAmong) := goodIn_app (goodIn_of _ (by decide +kernel)) ggX1_priceNow_X1_priceAmong
theorem dX1_priceNow_0 : decode cX1_priceNow 0 = .ok (.aload_n 0, 1) := by decide +kernel
theorem dX1_priceNow_1 : decode cX1_priceNow 1 = .ok (.iload_n 1, 1) := by decide +kernel
theorem dX1_priceNow_2 : decode cX1_priceNow 2 = .ok (.aload_n 0, 1) := by decide +kernel
theorem dX1_priceNow_3 : decode cX1_priceNow 3 = .ok (.getfield 37, 3) := by decide +kernel
theorem dX1_priceNow_6 : decode cX1_priceNow 6 = .ok (.invokevirtual 90, 3) := by decide +kernel
theorem dX1_priceNow_9 : decode cX1_priceNow 9 = .ok (.ireturn, 1) := by decide +kernel
set_option maxRecDepth 20000 in
theorem ggX1_priceAmong_X1_others : GoodIn wsX1_priceAmong wsX1_others := goodIn_r _ [5, 6, 7, 8, 9, 10, 4, 11, 12, 13, 14, 15, 30, 31, 32, 33, 34, 35, 36, 37, 38, 39] (by decide +kernel) (by decide +kernel)
set_option maxRecDepth 20000 in
theorem gX1_priceAmong_X1_others : GoodIn wsX1_priceAmong (wsV RX1 82 RX1 yX1_others wsX1_others) := goodIn_app (goodIn_of _ (by decide +kernel)) ggX1_priceAmong_X1_others
set_option maxRecDepth 20000 in
theorem ggX1_priceAmong_J6_bitCount_0f7a4 : GoodIn wsX1_priceAmong wsJ6_bitCount_0f7a4 := goodIn_r _ [19, 20, 21, 22] (by decide +kernel) (by decide +kernel)
set_option maxRecDepth 20000 in
theorem gX1_priceAmong_J6_bitCount_0f7a4 : GoodIn wsX1_priceAmong (va_wsS RX1 85 yJ6_bitCount_0f7a4 wsJ6_bitCount_0f7a4) := goodIn_app (goodIn_of _ (by decide +kernel)) ggX1_priceAmong_J6_bitCount_0f7a4
set_option maxRecDepth 20000 in
theorem ggX1_priceAmong_X1_priceAtHeat : GoodIn wsX1_priceAmong wsX1_priceAtHeat := goodIn_r _ [26, 27, 28, 29, 30, 31, 32, 33, 34, 35, 36, 37, 38, 39] (by decide +kernel) (by decide +kernel)
set_option maxRecDepth 20000 in
theorem gX1_priceAmong_X1_priceAtHeat : GoodIn wsX1_priceAmong (wsV RX1 93 RX1 yX1_priceAtHeat wsX1_priceAtHeat) := goodIn_app (goodIn_of _ (by decide +kernel)) ggX1_priceAmong_X1_priceAtHeat
theorem dX1_priceAmong_0 : decode cX1_priceAmong 0 = .ok (.aload_n 0, 1) := by decide +kernel
theorem dX1_priceAmong_1 : decode cX1_priceAmong 1 = .ok (.iload_n 1, 1) := by decide +kernel
theorem dX1_priceAmong_2 : decode cX1_priceAmong 2 = .ok (.aload_n 0, 1) := by decide +kernel
theorem dX1_priceAmong_3 : decode cX1_priceAmong 3 = .ok (.iload_n 1, 1) := by decide +kernel
theorem dX1_priceAmong_4 : decode cX1_priceAmong 4 = .ok (.invokevirtual 82, 3) := by decide +kernel
theorem dX1_priceAmong_7 : decode cX1_priceAmong 7 = .ok (.iload_n 2, 1) := by decide +kernel
theorem dX1_priceAmong_8 : decode cX1_priceAmong 8 = .ok (.iand, 1) := by decide +kernel
theorem dX1_priceAmong_9 : decode cX1_priceAmong 9 = .ok (.invokestatic 85, 3) := by decide +kernel
theorem dX1_priceAmong_12 : decode cX1_priceAmong 12 = .ok (.invokevirtual 93, 3) := by decide +kernel
theorem dX1_priceAmong_15 : decode cX1_priceAmong 15 = .ok (.ireturn, 1) := by decide +kernel
theorem dX1_priceAtHeat_0 : decode cX1_priceAtHeat 0 = .ok (.aload_n 0, 1) := by decide +kernel
theorem dX1_priceAtHeat_1 : decode cX1_priceAtHeat 1 = .ok (.getfield 9, 3) := by decide +kernel
theorem dX1_priceAtHeat_4 : decode cX1_priceAtHeat 4 = .ok (.iload_n 1, 1) := by decide +kernel
theorem dX1_priceAtHeat_5 : decode cX1_priceAtHeat 5 = .ok (.iaload, 1) := by decide +kernel
theorem dX1_priceAtHeat_6 : decode cX1_priceAtHeat 6 = .ok (.tableswitch 73 1 5 #[34, 73, 49, 60, 38], 34) := by decide +kernel
theorem dX1_priceAtHeat_40 : decode cX1_priceAtHeat 40 = .ok (.iload_n 2, 1) := by decide +kernel
theorem dX1_priceAtHeat_41 : decode cX1_priceAtHeat 41 = .ok (.iconst 1, 1) := by decide +kernel
theorem dX1_priceAtHeat_42 : decode cX1_priceAtHeat 42 = .ok (.iadd, 1) := by decide +kernel
theorem dX1_priceAtHeat_43 : decode cX1_priceAtHeat 43 = .ok (.ireturn, 1) := by decide +kernel
theorem dX1_priceAtHeat_44 : decode cX1_priceAtHeat 44 = .ok (.iload_n 2, 1) := by decide +kernel
theorem dX1_priceAtHeat_45 : decode cX1_priceAtHeat 45 = .ok (.iconst 1, 1) := by decide +kernel
theorem dX1_priceAtHeat_46 : decode cX1_priceAtHeat 46 = .ok (.iadd, 1) := by decide +kernel
theorem dX1_priceAtHeat_47 : decode cX1_priceAtHeat 47 = .ok (.aload_n 0, 1) := by decide +kernel
theorem dX1_priceAtHeat_48 : decode cX1_priceAtHeat 48 = .ok (.getfield 21, 3) := by decide +kernel
theorem dX1_priceAtHeat_51 : decode cX1_priceAtHeat 51 = .ok (.iload_n 1, 1) := by decide +kernel
theorem dX1_priceAtHeat_52 : decode cX1_priceAtHeat 52 = .ok (.iaload, 1) := by decide +kernel
theorem dX1_priceAtHeat_53 : decode cX1_priceAtHeat 53 = .ok (.iadd, 1) := by decide +kernel
theorem dX1_priceAtHeat_54 : decode cX1_priceAtHeat 54 = .ok (.ireturn, 1) := by decide +kernel
theorem dX1_priceAtHeat_55 : decode cX1_priceAtHeat 55 = .ok (.iload_n 2, 1) := by decide +kernel
theorem dX1_priceAtHeat_56 : decode cX1_priceAtHeat 56 = .ok (.iconst 2, 1) := by decide +kernel
theorem dX1_priceAtHeat_57 : decode cX1_priceAtHeat 57 = .ok (.aload_n 0, 1) := by decide +kernel
theorem dX1_priceAtHeat_58 : decode cX1_priceAtHeat 58 = .ok (.getfield 24, 3) := by decide +kernel
theorem dX1_priceAtHeat_61 : decode cX1_priceAtHeat 61 = .ok (.iload_n 1, 1) := by decide +kernel
theorem dX1_priceAtHeat_62 : decode cX1_priceAtHeat 62 = .ok (.iaload, 1) := by decide +kernel
theorem dX1_priceAtHeat_63 : decode cX1_priceAtHeat 63 = .ok (.imul, 1) := by decide +kernel
theorem dX1_priceAtHeat_64 : decode cX1_priceAtHeat 64 = .ok (.iadd, 1) := by decide +kernel
theorem dX1_priceAtHeat_65 : decode cX1_priceAtHeat 65 = .ok (.ireturn, 1) := by decide +kernel
theorem dX1_priceAtHeat_66 : decode cX1_priceAtHeat 66 = .ok (.iload_n 2, 1) := by decide +kernel
theorem dX1_priceAtHeat_67 : decode cX1_priceAtHeat 67 = .ok (.iconst 2, 1) := by decide +kernel
theorem dX1_priceAtHeat_68 : decode cX1_priceAtHeat 68 = .ok (.aload_n 0, 1) := by decide +kernel
theorem dX1_priceAtHeat_69 : decode cX1_priceAtHeat 69 = .ok (.getfield 24, 3) := by decide +kernel
theorem dX1_priceAtHeat_72 : decode cX1_priceAtHeat 72 = .ok (.iload_n 1, 1) := by decide +kernel
theorem dX1_priceAtHeat_73 : decode cX1_priceAtHeat 73 = .ok (.iaload, 1) := by decide +kernel
theorem dX1_priceAtHeat_74 : decode cX1_priceAtHeat 74 = .ok (.imul, 1) := by decide +kernel
theorem dX1_priceAtHeat_75 : decode cX1_priceAtHeat 75 = .ok (.iadd, 1) := by decide +kernel
theorem dX1_priceAtHeat_76 : decode cX1_priceAtHeat 76 = .ok (.iconst 2, 1) := by decide +kernel
theorem dX1_priceAtHeat_77 : decode cX1_priceAtHeat 77 = .ok (.idiv, 1) := by decide +kernel
theorem dX1_priceAtHeat_78 : decode cX1_priceAtHeat 78 = .ok (.ireturn, 1) := by decide +kernel
theorem dX1_priceAtHeat_79 : decode cX1_priceAtHeat 79 = .ok (.iload_n 2, 1) := by decide +kernel
theorem dX1_priceAtHeat_80 : decode cX1_priceAtHeat 80 = .ok (.aload_n 0, 1) := by decide +kernel
theorem dX1_priceAtHeat_81 : decode cX1_priceAtHeat 81 = .ok (.getfield 24, 3) := by decide +kernel
theorem dX1_priceAtHeat_84 : decode cX1_priceAtHeat 84 = .ok (.iload_n 1, 1) := by decide +kernel
theorem dX1_priceAtHeat_85 : decode cX1_priceAtHeat 85 = .ok (.iaload, 1) := by decide +kernel
theorem dX1_priceAtHeat_86 : decode cX1_priceAtHeat 86 = .ok (.iadd, 1) := by decide +kernel
theorem dX1_priceAtHeat_87 : decode cX1_priceAtHeat 87 = .ok (.ireturn, 1) := by decide +kernel
set_option maxRecDepth 20000 in
theorem ggX1_pricesOf_X7_hasBit : GoodIn wsX1_pricesOf wsX7_hasBit := goodIn_r _ [5] (by decide +kernel) (by decide +kernel)
set_option maxRecDepth 20000 in
theorem gX1_pricesOf_X7_hasBit_n57 : GoodIn wsX1_pricesOf (wsX7_hasBit) := ggX1_pricesOf_X7_hasBit
set_option maxRecDepth 20000 in
theorem ggX1_pricesOf_X1_priceAmong : GoodIn wsX1_pricesOf wsX1_priceAmong := goodIn_r _ [10, 11, 12, 13, 9, 14, 15, 16, 17, 18, 19, 20, 1, 21, 4, 22, 23, 24, 25, 26, 27, 28, 29, 30, 31, 32, 33, 34, 35, 36, 37, 38, 39, 40, 41, 42, 43, 44, 45, 46] (by decide +kernel) (by decide +kernel)
set_option maxRecDepth 20000 in
theorem gX1_pricesOf_X1_priceAmong : GoodIn wsX1_pricesOf (wsV RX1 90 RX1 yX1_priceAmong wsX1_priceAmong) := goodIn_app (goodIn_of _ (by decide +kernel)) ggX1_pricesOf_X1_priceAmong
theorem dX1_pricesOf_0 : decode cX1_pricesOf 0 = .ok (.iconst 0, 1) := by decide +kernel
theorem dX1_pricesOf_1 : decode cX1_pricesOf 1 = .ok (.istore_n 2, 1) := by decide +kernel
theorem dX1_pricesOf_2 : decode cX1_pricesOf 2 = .ok (.iconst 0, 1) := by decide +kernel
theorem dX1_pricesOf_3 : decode cX1_pricesOf 3 = .ok (.istore_n 3, 1) := by decide +kernel
theorem dX1_pricesOf_4 : decode cX1_pricesOf 4 = .ok (.iload_n 3, 1) := by decide +kernel
theorem dX1_pricesOf_5 : decode cX1_pricesOf 5 = .ok (.aload_n 0, 1) := by decide +kernel
theorem dX1_pricesOf_6 : decode cX1_pricesOf 6 = .ok (.getfield 33, 3) := by decide +kernel
theorem dX1_pricesOf_9 : decode cX1_pricesOf 9 = .ok (.if_icmp .ge 29, 3) := by decide +kernel
theorem dX1_pricesOf_12 : decode cX1_pricesOf 12 = .ok (.iload_n 1, 1) := by decide +kernel
theorem dX1_pricesOf_13 : decode cX1_pricesOf 13 = .ok (.iload_n 3, 1) := by decide +kernel
theorem dX1_pricesOf_14 : decode cX1_pricesOf 14 = .ok (.invokestatic 57, 3) := by decide +kernel
theorem dX1_pricesOf_17 : decode cX1_pricesOf 17 = .ok (.ifCond .eq 15, 3) := by decide +kernel
theorem dX1_pricesOf_20 : decode cX1_pricesOf 20 = .ok (.iload_n 2, 1) := by decide +kernel
theorem dX1_pricesOf_21 : decode cX1_pricesOf 21 = .ok (.aload_n 0, 1) := by decide +kernel
theorem dX1_pricesOf_22 : decode cX1_pricesOf 22 = .ok (.iload_n 3, 1) := by decide +kernel
theorem dX1_pricesOf_23 : decode cX1_pricesOf 23 = .ok (.aload_n 0, 1) := by decide +kernel
theorem dX1_pricesOf_24 : decode cX1_pricesOf 24 = .ok (.getfield 37, 3) := by decide +kernel
theorem dX1_pricesOf_27 : decode cX1_pricesOf 27 = .ok (.invokevirtual 90, 3) := by decide +kernel
theorem dX1_pricesOf_30 : decode cX1_pricesOf 30 = .ok (.iadd, 1) := by decide +kernel
theorem dX1_pricesOf_31 : decode cX1_pricesOf 31 = .ok (.istore_n 2, 1) := by decide +kernel
theorem dX1_pricesOf_32 : decode cX1_pricesOf 32 = .ok (.iinc 3 1, 3) := by decide +kernel
theorem dX1_pricesOf_35 : decode cX1_pricesOf 35 = .ok (.goto (-31), 3) := by decide +kernel
theorem dX1_pricesOf_38 : decode cX1_pricesOf 38 = .ok (.iload_n 2, 1) := by decide +kernel
theorem dX1_pricesOf_39 : decode cX1_pricesOf 39 = .ok (.ireturn, 1) := by decide +kernel
set_option maxRecDepth 20000 in
theorem ggX1_answerers_X7_bit : GoodIn wsX1_answerers wsX7_bit := goodIn_r _ [5] (by decide +kernel) (by decide +kernel)
set_option maxRecDepth 20000 in
theorem gX1_answerers_X7_bit_n53 : GoodIn wsX1_answerers (wsX7_bit) := ggX1_answerers_X7_bit
theorem dX1_answerers_0 : decode cX1_answerers 0 = .ok (.iconst 0, 1) := by decide +kernel
theorem dX1_answerers_1 : decode cX1_answerers 1 = .ok (.istore_n 2, 1) := by decide +kernel
theorem dX1_answerers_2 : decode cX1_answerers 2 = .ok (.iload_n 1, 1) := by decide +kernel
theorem dX1_answerers_3 : decode cX1_answerers 3 = .ok (.iconst 1, 1) := by decide +kernel
theorem dX1_answerers_4 : decode cX1_answerers 4 = .ok (.iadd, 1) := by decide +kernel
theorem dX1_answerers_5 : decode cX1_answerers 5 = .ok (.istore_n 3, 1) := by decide +kernel
theorem dX1_answerers_6 : decode cX1_answerers 6 = .ok (.iload_n 3, 1) := by decide +kernel
theorem dX1_answerers_7 : decode cX1_answerers 7 = .ok (.aload_n 0, 1) := by decide +kernel
theorem dX1_answerers_8 : decode cX1_answerers 8 = .ok (.getfield 33, 3) := by decide +kernel
theorem dX1_answerers_11 : decode cX1_answerers 11 = .ok (.if_icmp .ge 26, 3) := by decide +kernel
theorem dX1_answerers_14 : decode cX1_answerers 14 = .ok (.aload_n 0, 1) := by decide +kernel
theorem dX1_answerers_15 : decode cX1_answerers 15 = .ok (.getfield 27, 3) := by decide +kernel
theorem dX1_answerers_18 : decode cX1_answerers 18 = .ok (.iload_n 3, 1) := by decide +kernel
theorem dX1_answerers_19 : decode cX1_answerers 19 = .ok (.iaload, 1) := by decide +kernel
theorem dX1_answerers_20 : decode cX1_answerers 20 = .ok (.iload_n 1, 1) := by decide +kernel
theorem dX1_answerers_21 : decode cX1_answerers 21 = .ok (.if_icmp .ne 10, 3) := by decide +kernel
theorem dX1_answerers_24 : decode cX1_answerers 24 = .ok (.iload_n 2, 1) := by decide +kernel
theorem dX1_answerers_25 : decode cX1_answerers 25 = .ok (.iload_n 3, 1) := by decide +kernel
theorem dX1_answerers_26 : decode cX1_answerers 26 = .ok (.invokestatic 53, 3) := by decide +kernel
theorem dX1_answerers_29 : decode cX1_answerers 29 = .ok (.ior, 1) := by decide +kernel
theorem dX1_answerers_30 : decode cX1_answerers 30 = .ok (.istore_n 2, 1) := by decide +kernel
theorem dX1_answerers_31 : decode cX1_answerers 31 = .ok (.iinc 3 1, 3) := by decide +kernel
theorem dX1_answerers_34 : decode cX1_answerers 34 = .ok (.goto (-28), 3) := by decide +kernel
theorem dX1_answerers_37 : decode cX1_answerers 37 = .ok (.iload_n 2, 1) := by decide +kernel
theorem dX1_answerers_38 : decode cX1_answerers 38 = .ok (.ireturn, 1) := by decide +kernel
set_option maxRecDepth 20000 in
theorem ggX1_holders_X1_answerers : GoodIn wsX1_holders wsX1_answerers := goodIn_r _ [6, 7, 8, 9, 10, 11, 12, 13, 14, 15, 16, 17, 18, 19, 20, 21] (by decide +kernel) (by decide +kernel)
set_option maxRecDepth 20000 in
theorem gX1_holders_X1_answerers : GoodIn wsX1_holders (wsV RX1 96 RX1 yX1_answerers wsX1_answerers) := goodIn_app (goodIn_of _ (by decide +kernel)) ggX1_holders_X1_answerers
theorem dX1_holders_0 : decode cX1_holders 0 = .ok (.aload_n 0, 1) := by decide +kernel
theorem dX1_holders_1 : decode cX1_holders 1 = .ok (.getfield 9, 3) := by decide +kernel
theorem dX1_holders_4 : decode cX1_holders 4 = .ok (.iload_n 1, 1) := by decide +kernel
theorem dX1_holders_5 : decode cX1_holders 5 = .ok (.iaload, 1) := by decide +kernel
theorem dX1_holders_6 : decode cX1_holders 6 = .ok (.iconst 4, 1) := by decide +kernel
theorem dX1_holders_7 : decode cX1_holders 7 = .ok (.if_icmp .ne 7, 3) := by decide +kernel
theorem dX1_holders_10 : decode cX1_holders 10 = .ok (.iconst 0, 1) := by decide +kernel
theorem dX1_holders_11 : decode cX1_holders 11 = .ok (.goto 8, 3) := by decide +kernel
theorem dX1_holders_14 : decode cX1_holders 14 = .ok (.aload_n 0, 1) := by decide +kernel
theorem dX1_holders_15 : decode cX1_holders 15 = .ok (.iload_n 1, 1) := by decide +kernel
theorem dX1_holders_16 : decode cX1_holders 16 = .ok (.invokevirtual 96, 3) := by decide +kernel
theorem dX1_holders_19 : decode cX1_holders 19 = .ok (.ireturn, 1) := by decide +kernel
set_option maxRecDepth 20000 in
theorem ggX1_mayGo_X7_hasBit : GoodIn wsX1_mayGo wsX7_hasBit := goodIn_r _ [3] (by decide +kernel) (by decide +kernel)
set_option maxRecDepth 20000 in
theorem gX1_mayGo_X7_hasBit_n57 : GoodIn wsX1_mayGo (wsX7_hasBit) := ggX1_mayGo_X7_hasBit
set_option maxRecDepth 20000 in
theorem ggX1_mayGo_X1_holders : GoodIn wsX1_mayGo wsX1_holders := goodIn_r _ [8, 9, 10, 11, 12, 7, 13, 14, 15, 16, 2, 17, 18, 19, 20, 21, 22, 23, 24, 25, 26, 27] (by decide +kernel) (by decide +kernel)
set_option maxRecDepth 20000 in
theorem gX1_mayGo_X1_holders : GoodIn wsX1_mayGo (wsV RX1 99 RX1 yX1_holders wsX1_holders) := goodIn_app (goodIn_of _ (by decide +kernel)) ggX1_mayGo_X1_holders
theorem dX1_mayGo_0 : decode cX1_mayGo 0 = .ok (.iload_n 2, 1) := by decide +kernel
theorem dX1_mayGo_1 : decode cX1_mayGo 1 = .ok (.iload_n 1, 1) := by decide +kernel
theorem dX1_mayGo_2 : decode cX1_mayGo 2 = .ok (.invokestatic 57, 3) := by decide +kernel
theorem dX1_mayGo_5 : decode cX1_mayGo 5 = .ok (.ifCond .eq 17, 3) := by decide +kernel
theorem dX1_mayGo_8 : decode cX1_mayGo 8 = .ok (.aload_n 0, 1) := by decide +kernel
theorem dX1_mayGo_9 : decode cX1_mayGo 9 = .ok (.iload_n 1, 1) := by decide +kernel
theorem dX1_mayGo_10 : decode cX1_mayGo 10 = .ok (.invokevirtual 99, 3) := by decide +kernel
theorem dX1_mayGo_13 : decode cX1_mayGo 13 = .ok (.iload_n 2, 1) := by decide +kernel
theorem dX1_mayGo_14 : decode cX1_mayGo 14 = .ok (.iand, 1) := by decide +kernel
theorem dX1_mayGo_15 : decode cX1_mayGo 15 = .ok (.ifCond .ne 7, 3) := by decide +kernel
theorem dX1_mayGo_18 : decode cX1_mayGo 18 = .ok (.iconst 1, 1) := by decide +kernel
theorem dX1_mayGo_19 : decode cX1_mayGo 19 = .ok (.goto 4, 3) := by decide +kernel
theorem dX1_mayGo_22 : decode cX1_mayGo 22 = .ok (.iconst 0, 1) := by decide +kernel
theorem dX1_mayGo_23 : decode cX1_mayGo 23 = .ok (.ireturn, 1) := by decide +kernel
set_option maxRecDepth 20000 in
theorem ggX1_freeAmong_X1_mayGo : GoodIn wsX1_freeAmong wsX1_mayGo := goodIn_r _ [6, 7, 8, 9, 10, 11, 12, 5, 13, 14, 15, 16, 17, 18, 1, 19, 20, 21, 22, 23, 24, 25, 26, 27, 28, 29, 30, 31] (by decide +kernel) (by decide +kernel)
set_option maxRecDepth 20000 in
theorem gX1_freeAmong_X1_mayGo : GoodIn wsX1_freeAmong (wsV RX1 102 RX1 yX1_mayGo wsX1_mayGo) := goodIn_app (goodIn_of _ (by decide +kernel)) ggX1_freeAmong_X1_mayGo
set_option maxRecDepth 20000 in
theorem ggX1_freeAmong_X7_bit : GoodIn wsX1_freeAmong wsX7_bit := goodIn_r _ [21] (by decide +kernel) (by decide +kernel)
set_option maxRecDepth 20000 in
theorem gX1_freeAmong_X7_bit_n53 : GoodIn wsX1_freeAmong (wsX7_bit) := ggX1_freeAmong_X7_bit
theorem dX1_freeAmong_0 : decode cX1_freeAmong 0 = .ok (.iconst 0, 1) := by decide +kernel
theorem dX1_freeAmong_1 : decode cX1_freeAmong 1 = .ok (.istore_n 2, 1) := by decide +kernel
theorem dX1_freeAmong_2 : decode cX1_freeAmong 2 = .ok (.iconst 0, 1) := by decide +kernel
theorem dX1_freeAmong_3 : decode cX1_freeAmong 3 = .ok (.istore_n 3, 1) := by decide +kernel
theorem dX1_freeAmong_4 : decode cX1_freeAmong 4 = .ok (.iload_n 3, 1) := by decide +kernel
theorem dX1_freeAmong_5 : decode cX1_freeAmong 5 = .ok (.aload_n 0, 1) := by decide +kernel
theorem dX1_freeAmong_6 : decode cX1_freeAmong 6 = .ok (.getfield 33, 3) := by decide +kernel
theorem dX1_freeAmong_9 : decode cX1_freeAmong 9 = .ok (.if_icmp .ge 25, 3) := by decide +kernel
theorem dX1_freeAmong_12 : decode cX1_freeAmong 12 = .ok (.aload_n 0, 1) := by decide +kernel
theorem dX1_freeAmong_13 : decode cX1_freeAmong 13 = .ok (.iload_n 3, 1) := by decide +kernel
theorem dX1_freeAmong_14 : decode cX1_freeAmong 14 = .ok (.iload_n 1, 1) := by decide +kernel
theorem dX1_freeAmong_15 : decode cX1_freeAmong 15 = .ok (.invokevirtual 102, 3) := by decide +kernel
theorem dX1_freeAmong_18 : decode cX1_freeAmong 18 = .ok (.ifCond .eq 10, 3) := by decide +kernel
theorem dX1_freeAmong_21 : decode cX1_freeAmong 21 = .ok (.iload_n 2, 1) := by decide +kernel
theorem dX1_freeAmong_22 : decode cX1_freeAmong 22 = .ok (.iload_n 3, 1) := by decide +kernel
theorem dX1_freeAmong_23 : decode cX1_freeAmong 23 = .ok (.invokestatic 53, 3) := by decide +kernel
theorem dX1_freeAmong_26 : decode cX1_freeAmong 26 = .ok (.ior, 1) := by decide +kernel
theorem dX1_freeAmong_27 : decode cX1_freeAmong 27 = .ok (.istore_n 2, 1) := by decide +kernel
theorem dX1_freeAmong_28 : decode cX1_freeAmong 28 = .ok (.iinc 3 1, 3) := by decide +kernel
theorem dX1_freeAmong_31 : decode cX1_freeAmong 31 = .ok (.goto (-27), 3) := by decide +kernel
theorem dX1_freeAmong_34 : decode cX1_freeAmong 34 = .ok (.iload_n 2, 1) := by decide +kernel
theorem dX1_freeAmong_35 : decode cX1_freeAmong 35 = .ok (.ireturn, 1) := by decide +kernel
set_option maxRecDepth 20000 in
theorem ggX1_hasToGoAhead_X1_hasNumber : GoodIn wsX1_hasToGoAhead wsX1_hasNumber := goodIn_r _ [7, 8, 17, 18, 19, 20, 21, 22, 23, 24, 25, 26] (by decide +kernel) (by decide +kernel)
set_option maxRecDepth 20000 in
theorem gX1_hasToGoAhead_X1_hasNumber : GoodIn wsX1_hasToGoAhead (wsV RX1 72 RX1 yX1_hasNumber wsX1_hasNumber) := goodIn_app (goodIn_of _ (by decide +kernel)) ggX1_hasToGoAhead_X1_hasNumber
set_option maxRecDepth 20000 in
theorem ggX1_hasToGoAhead_X1_isSaid : GoodIn wsX1_hasToGoAhead wsX1_isSaid := goodIn_r _ [12, 13, 14, 15, 16, 17, 18, 19, 20, 21, 22, 23, 24, 25, 26] (by decide +kernel) (by decide +kernel)
set_option maxRecDepth 20000 in
theorem gX1_hasToGoAhead_X1_isSaid : GoodIn wsX1_hasToGoAhead (wsV RX1 61 RX1 yX1_isSaid wsX1_isSaid) := goodIn_app (goodIn_of _ (by decide +kernel)) ggX1_hasToGoAhead_X1_isSaid
theorem dX1_hasToGoAhead_0 : decode cX1_hasToGoAhead 0 = .ok (.aload_n 0, 1) := by decide +kernel
theorem dX1_hasToGoAhead_1 : decode cX1_hasToGoAhead 1 = .ok (.getfield 27, 3) := by decide +kernel
theorem dX1_hasToGoAhead_4 : decode cX1_hasToGoAhead 4 = .ok (.iload_n 1, 1) := by decide +kernel
theorem dX1_hasToGoAhead_5 : decode cX1_hasToGoAhead 5 = .ok (.iaload, 1) := by decide +kernel
theorem dX1_hasToGoAhead_6 : decode cX1_hasToGoAhead 6 = .ok (.istore_n 2, 1) := by decide +kernel
theorem dX1_hasToGoAhead_7 : decode cX1_hasToGoAhead 7 = .ok (.aload_n 0, 1) := by decide +kernel
theorem dX1_hasToGoAhead_8 : decode cX1_hasToGoAhead 8 = .ok (.iload_n 2, 1) := by decide +kernel
theorem dX1_hasToGoAhead_9 : decode cX1_hasToGoAhead 9 = .ok (.invokevirtual 72, 3) := by decide +kernel
theorem dX1_hasToGoAhead_12 : decode cX1_hasToGoAhead 12 = .ok (.ifCond .eq 25, 3) := by decide +kernel
theorem dX1_hasToGoAhead_15 : decode cX1_hasToGoAhead 15 = .ok (.aload_n 0, 1) := by decide +kernel
theorem dX1_hasToGoAhead_16 : decode cX1_hasToGoAhead 16 = .ok (.iload_n 2, 1) := by decide +kernel
theorem dX1_hasToGoAhead_17 : decode cX1_hasToGoAhead 17 = .ok (.invokevirtual 61, 3) := by decide +kernel
theorem dX1_hasToGoAhead_20 : decode cX1_hasToGoAhead 20 = .ok (.ifCond .eq 17, 3) := by decide +kernel
theorem dX1_hasToGoAhead_23 : decode cX1_hasToGoAhead 23 = .ok (.aload_n 0, 1) := by decide +kernel
theorem dX1_hasToGoAhead_24 : decode cX1_hasToGoAhead 24 = .ok (.getfield 9, 3) := by decide +kernel
theorem dX1_hasToGoAhead_27 : decode cX1_hasToGoAhead 27 = .ok (.iload_n 2, 1) := by decide +kernel
theorem dX1_hasToGoAhead_28 : decode cX1_hasToGoAhead 28 = .ok (.iaload, 1) := by decide +kernel
theorem dX1_hasToGoAhead_29 : decode cX1_hasToGoAhead 29 = .ok (.iconst 4, 1) := by decide +kernel
theorem dX1_hasToGoAhead_30 : decode cX1_hasToGoAhead 30 = .ok (.if_icmp .eq 7, 3) := by decide +kernel
theorem dX1_hasToGoAhead_33 : decode cX1_hasToGoAhead 33 = .ok (.iconst 1, 1) := by decide +kernel
theorem dX1_hasToGoAhead_34 : decode cX1_hasToGoAhead 34 = .ok (.goto 4, 3) := by decide +kernel
theorem dX1_hasToGoAhead_37 : decode cX1_hasToGoAhead 37 = .ok (.iconst 0, 1) := by decide +kernel
theorem dX1_hasToGoAhead_38 : decode cX1_hasToGoAhead 38 = .ok (.ireturn, 1) := by decide +kernel
set_option maxRecDepth 20000 in
theorem ggX1_hasToGoWith_X1_isSaid : GoodIn wsX1_hasToGoWith wsX1_isSaid := goodIn_r _ [7, 8, 9, 10, 11, 23, 24, 25, 26, 27, 28, 29, 30, 31, 32] (by decide +kernel) (by decide +kernel)
set_option maxRecDepth 20000 in
theorem gX1_hasToGoWith_X1_isSaid : GoodIn wsX1_hasToGoWith (wsV RX1 61 RX1 yX1_isSaid wsX1_isSaid) := goodIn_app (goodIn_of _ (by decide +kernel)) ggX1_hasToGoWith_X1_isSaid
set_option maxRecDepth 20000 in
theorem ggX1_hasToGoWith_X1_hasToGoAhead : GoodIn wsX1_hasToGoWith wsX1_hasToGoAhead := goodIn_r _ [15, 2, 16, 17, 18, 19, 6, 20, 1, 3, 4, 5, 7, 8, 9, 10, 11, 23, 24, 25, 26, 27, 28, 29, 30, 31, 32] (by decide +kernel) (by decide +kernel)
set_option maxRecDepth 20000 in
theorem gX1_hasToGoWith_X1_hasToGoAhead : GoodIn wsX1_hasToGoWith (wsV RX1 105 RX1 yX1_hasToGoAhead wsX1_hasToGoAhead) := goodIn_app (goodIn_of _ (by decide +kernel)) ggX1_hasToGoWith_X1_hasToGoAhead
set_option maxRecDepth 20000 in
theorem ggX1_hasToGoWith_X7_hasBit : GoodIn wsX1_hasToGoWith wsX7_hasBit := goodIn_r _ [11] (by decide +kernel) (by decide +kernel)
set_option maxRecDepth 20000 in
theorem gX1_hasToGoWith_X7_hasBit_n57 : GoodIn wsX1_hasToGoWith (wsX7_hasBit) := ggX1_hasToGoWith_X7_hasBit
set_option maxRecDepth 20000 in
theorem ggX1_hasToGoWith_X7_bit : GoodIn wsX1_hasToGoWith wsX7_bit := goodIn_r _ [22] (by decide +kernel) (by decide +kernel)
set_option maxRecDepth 20000 in
theorem gX1_hasToGoWith_X7_bit_n53 : GoodIn wsX1_hasToGoWith (wsX7_bit) := ggX1_hasToGoWith_X7_bit
theorem dX1_hasToGoWith_0 : decode cX1_hasToGoWith 0 = .ok (.iload_n 1, 1) := by decide +kernel
theorem dX1_hasToGoWith_1 : decode cX1_hasToGoWith 1 = .ok (.istore_n 2, 1) := by decide +kernel
theorem dX1_hasToGoWith_2 : decode cX1_hasToGoWith 2 = .ok (.iconst 0, 1) := by decide +kernel
theorem dX1_hasToGoWith_3 : decode cX1_hasToGoWith 3 = .ok (.istore_n 3, 1) := by decide +kernel
theorem dX1_hasToGoWith_4 : decode cX1_hasToGoWith 4 = .ok (.iload_n 3, 1) := by decide +kernel
theorem dX1_hasToGoWith_5 : decode cX1_hasToGoWith 5 = .ok (.aload_n 0, 1) := by decide +kernel
theorem dX1_hasToGoWith_6 : decode cX1_hasToGoWith 6 = .ok (.getfield 33, 3) := by decide +kernel
theorem dX1_hasToGoWith_9 : decode cX1_hasToGoWith 9 = .ok (.if_icmp .ge 45, 3) := by decide +kernel
theorem dX1_hasToGoWith_12 : decode cX1_hasToGoWith 12 = .ok (.aload_n 0, 1) := by decide +kernel
theorem dX1_hasToGoWith_13 : decode cX1_hasToGoWith 13 = .ok (.iload_n 3, 1) := by decide +kernel
theorem dX1_hasToGoWith_14 : decode cX1_hasToGoWith 14 = .ok (.invokevirtual 61, 3) := by decide +kernel
theorem dX1_hasToGoWith_17 : decode cX1_hasToGoWith 17 = .ok (.ifCond .eq 31, 3) := by decide +kernel
theorem dX1_hasToGoWith_20 : decode cX1_hasToGoWith 20 = .ok (.aload_n 0, 1) := by decide +kernel
theorem dX1_hasToGoWith_21 : decode cX1_hasToGoWith 21 = .ok (.iload_n 3, 1) := by decide +kernel
theorem dX1_hasToGoWith_22 : decode cX1_hasToGoWith 22 = .ok (.invokevirtual 105, 3) := by decide +kernel
theorem dX1_hasToGoWith_25 : decode cX1_hasToGoWith 25 = .ok (.ifCond .eq 23, 3) := by decide +kernel
theorem dX1_hasToGoWith_28 : decode cX1_hasToGoWith 28 = .ok (.iload_n 2, 1) := by decide +kernel
theorem dX1_hasToGoWith_29 : decode cX1_hasToGoWith 29 = .ok (.aload_n 0, 1) := by decide +kernel
theorem dX1_hasToGoWith_30 : decode cX1_hasToGoWith 30 = .ok (.getfield 27, 3) := by decide +kernel
theorem dX1_hasToGoWith_33 : decode cX1_hasToGoWith 33 = .ok (.iload_n 3, 1) := by decide +kernel
theorem dX1_hasToGoWith_34 : decode cX1_hasToGoWith 34 = .ok (.iaload, 1) := by decide +kernel
theorem dX1_hasToGoWith_35 : decode cX1_hasToGoWith 35 = .ok (.invokestatic 57, 3) := by decide +kernel
theorem dX1_hasToGoWith_38 : decode cX1_hasToGoWith 38 = .ok (.ifCond .eq 10, 3) := by decide +kernel
theorem dX1_hasToGoWith_41 : decode cX1_hasToGoWith 41 = .ok (.iload_n 2, 1) := by decide +kernel
theorem dX1_hasToGoWith_42 : decode cX1_hasToGoWith 42 = .ok (.iload_n 3, 1) := by decide +kernel
theorem dX1_hasToGoWith_43 : decode cX1_hasToGoWith 43 = .ok (.invokestatic 53, 3) := by decide +kernel
theorem dX1_hasToGoWith_46 : decode cX1_hasToGoWith 46 = .ok (.ior, 1) := by decide +kernel
theorem dX1_hasToGoWith_47 : decode cX1_hasToGoWith 47 = .ok (.istore_n 2, 1) := by decide +kernel
theorem dX1_hasToGoWith_48 : decode cX1_hasToGoWith 48 = .ok (.iinc 3 1, 3) := by decide +kernel
theorem dX1_hasToGoWith_51 : decode cX1_hasToGoWith 51 = .ok (.goto (-47), 3) := by decide +kernel
theorem dX1_hasToGoWith_54 : decode cX1_hasToGoWith 54 = .ok (.iload_n 2, 1) := by decide +kernel
theorem dX1_hasToGoWith_55 : decode cX1_hasToGoWith 55 = .ok (.ireturn, 1) := by decide +kernel
set_option maxRecDepth 20000 in
theorem ggX1_leanedOn_X1_hasNumber : GoodIn wsX1_leanedOn wsX1_hasNumber := goodIn_r _ [6, 7, 11, 12, 13, 14, 15, 16, 17, 18, 19, 20] (by decide +kernel) (by decide +kernel)
set_option maxRecDepth 20000 in
theorem gX1_leanedOn_X1_hasNumber : GoodIn wsX1_leanedOn (wsV RX1 72 RX1 yX1_hasNumber wsX1_hasNumber) := goodIn_app (goodIn_of _ (by decide +kernel)) ggX1_leanedOn_X1_hasNumber
set_option maxRecDepth 20000 in
theorem ggX1_leanedOn_X7_bit : GoodIn wsX1_leanedOn wsX7_bit := goodIn_r _ [10] (by decide +kernel) (by decide +kernel)
set_option maxRecDepth 20000 in
theorem gX1_leanedOn_X7_bit_n53 : GoodIn wsX1_leanedOn (wsX7_bit) := ggX1_leanedOn_X7_bit
theorem dX1_leanedOn_0 : decode cX1_leanedOn 0 = .ok (.iconst 0, 1) := by decide +kernel
theorem dX1_leanedOn_1 : decode cX1_leanedOn 1 = .ok (.istore_n 2, 1) := by decide +kernel
theorem dX1_leanedOn_2 : decode cX1_leanedOn 2 = .ok (.aload_n 0, 1) := by decide +kernel
theorem dX1_leanedOn_3 : decode cX1_leanedOn 3 = .ok (.getfield 27, 3) := by decide +kernel
theorem dX1_leanedOn_6 : decode cX1_leanedOn 6 = .ok (.iload_n 1, 1) := by decide +kernel
theorem dX1_leanedOn_7 : decode cX1_leanedOn 7 = .ok (.iaload, 1) := by decide +kernel
theorem dX1_leanedOn_8 : decode cX1_leanedOn 8 = .ok (.istore_n 3, 1) := by decide +kernel
theorem dX1_leanedOn_9 : decode cX1_leanedOn 9 = .ok (.iconst 0, 1) := by decide +kernel
theorem dX1_leanedOn_10 : decode cX1_leanedOn 10 = .ok (.istore 4, 2) := by decide +kernel
theorem dX1_leanedOn_12 : decode cX1_leanedOn 12 = .ok (.iload 4, 2) := by decide +kernel
theorem dX1_leanedOn_14 : decode cX1_leanedOn 14 = .ok (.bipush 12, 2) := by decide +kernel
theorem dX1_leanedOn_16 : decode cX1_leanedOn 16 = .ok (.if_icmp .ge 31, 3) := by decide +kernel
theorem dX1_leanedOn_19 : decode cX1_leanedOn 19 = .ok (.aload_n 0, 1) := by decide +kernel
theorem dX1_leanedOn_20 : decode cX1_leanedOn 20 = .ok (.iload_n 3, 1) := by decide +kernel
theorem dX1_leanedOn_21 : decode cX1_leanedOn 21 = .ok (.invokevirtual 72, 3) := by decide +kernel
theorem dX1_leanedOn_24 : decode cX1_leanedOn 24 = .ok (.ifCond .eq 23, 3) := by decide +kernel
theorem dX1_leanedOn_27 : decode cX1_leanedOn 27 = .ok (.iload_n 2, 1) := by decide +kernel
theorem dX1_leanedOn_28 : decode cX1_leanedOn 28 = .ok (.iload_n 3, 1) := by decide +kernel
theorem dX1_leanedOn_29 : decode cX1_leanedOn 29 = .ok (.invokestatic 53, 3) := by decide +kernel
theorem dX1_leanedOn_32 : decode cX1_leanedOn 32 = .ok (.ior, 1) := by decide +kernel
theorem dX1_leanedOn_33 : decode cX1_leanedOn 33 = .ok (.istore_n 2, 1) := by decide +kernel
theorem dX1_leanedOn_34 : decode cX1_leanedOn 34 = .ok (.aload_n 0, 1) := by decide +kernel
theorem dX1_leanedOn_35 : decode cX1_leanedOn 35 = .ok (.getfield 27, 3) := by decide +kernel
theorem dX1_leanedOn_38 : decode cX1_leanedOn 38 = .ok (.iload_n 3, 1) := by decide +kernel
theorem dX1_leanedOn_39 : decode cX1_leanedOn 39 = .ok (.iaload, 1) := by decide +kernel
theorem dX1_leanedOn_40 : decode cX1_leanedOn 40 = .ok (.istore_n 3, 1) := by decide +kernel
theorem dX1_leanedOn_41 : decode cX1_leanedOn 41 = .ok (.iinc 4 1, 3) := by decide +kernel
theorem dX1_leanedOn_44 : decode cX1_leanedOn 44 = .ok (.goto (-32), 3) := by decide +kernel
theorem dX1_leanedOn_47 : decode cX1_leanedOn 47 = .ok (.iload_n 2, 1) := by decide +kernel
theorem dX1_leanedOn_48 : decode cX1_leanedOn 48 = .ok (.ireturn, 1) := by decide +kernel
set_option maxRecDepth 20000 in
theorem ggX1_leaningOn_X1_leanedOn : GoodIn wsX1_leaningOn wsX1_leanedOn := goodIn_r _ [6, 7, 8, 9, 10, 5, 11, 1, 12, 13, 14, 17, 18, 19, 20, 21, 22, 23, 24, 25, 26] (by decide +kernel) (by decide +kernel)
set_option maxRecDepth 20000 in
theorem gX1_leaningOn_X1_leanedOn : GoodIn wsX1_leaningOn (wsV RX1 108 RX1 yX1_leanedOn wsX1_leanedOn) := goodIn_app (goodIn_of _ (by decide +kernel)) ggX1_leaningOn_X1_leanedOn
set_option maxRecDepth 20000 in
theorem ggX1_leaningOn_X7_hasBit : GoodIn wsX1_leaningOn wsX7_hasBit := goodIn_r _ [16] (by decide +kernel) (by decide +kernel)
set_option maxRecDepth 20000 in
theorem gX1_leaningOn_X7_hasBit_n57 : GoodIn wsX1_leaningOn (wsX7_hasBit) := ggX1_leaningOn_X7_hasBit
set_option maxRecDepth 20000 in
theorem ggX1_leaningOn_X7_bit : GoodIn wsX1_leaningOn wsX7_bit := goodIn_r _ [14] (by decide +kernel) (by decide +kernel)
set_option maxRecDepth 20000 in
theorem gX1_leaningOn_X7_bit_n53 : GoodIn wsX1_leaningOn (wsX7_bit) := ggX1_leaningOn_X7_bit
theorem dX1_leaningOn_0 : decode cX1_leaningOn 0 = .ok (.iconst 0, 1) := by decide +kernel
theorem dX1_leaningOn_1 : decode cX1_leaningOn 1 = .ok (.istore_n 2, 1) := by decide +kernel
theorem dX1_leaningOn_2 : decode cX1_leaningOn 2 = .ok (.iload_n 1, 1) := by decide +kernel
theorem dX1_leaningOn_3 : decode cX1_leaningOn 3 = .ok (.iconst 1, 1) := by decide +kernel
theorem dX1_leaningOn_4 : decode cX1_leaningOn 4 = .ok (.iadd, 1) := by decide +kernel
theorem dX1_leaningOn_5 : decode cX1_leaningOn 5 = .ok (.istore_n 3, 1) := by decide +kernel
theorem dX1_leaningOn_6 : decode cX1_leaningOn 6 = .ok (.iload_n 3, 1) := by decide +kernel
theorem dX1_leaningOn_7 : decode cX1_leaningOn 7 = .ok (.aload_n 0, 1) := by decide +kernel
theorem dX1_leaningOn_8 : decode cX1_leaningOn 8 = .ok (.getfield 33, 3) := by decide +kernel
theorem dX1_leaningOn_11 : decode cX1_leaningOn 11 = .ok (.if_icmp .ge 28, 3) := by decide +kernel
theorem dX1_leaningOn_14 : decode cX1_leaningOn 14 = .ok (.aload_n 0, 1) := by decide +kernel
theorem dX1_leaningOn_15 : decode cX1_leaningOn 15 = .ok (.iload_n 3, 1) := by decide +kernel
theorem dX1_leaningOn_16 : decode cX1_leaningOn 16 = .ok (.invokevirtual 108, 3) := by decide +kernel
theorem dX1_leaningOn_19 : decode cX1_leaningOn 19 = .ok (.iload_n 1, 1) := by decide +kernel
theorem dX1_leaningOn_20 : decode cX1_leaningOn 20 = .ok (.invokestatic 57, 3) := by decide +kernel
theorem dX1_leaningOn_23 : decode cX1_leaningOn 23 = .ok (.ifCond .eq 10, 3) := by decide +kernel
theorem dX1_leaningOn_26 : decode cX1_leaningOn 26 = .ok (.iload_n 2, 1) := by decide +kernel
theorem dX1_leaningOn_27 : decode cX1_leaningOn 27 = .ok (.iload_n 3, 1) := by decide +kernel
theorem dX1_leaningOn_28 : decode cX1_leaningOn 28 = .ok (.invokestatic 53, 3) := by decide +kernel
theorem dX1_leaningOn_31 : decode cX1_leaningOn 31 = .ok (.ior, 1) := by decide +kernel
theorem dX1_leaningOn_32 : decode cX1_leaningOn 32 = .ok (.istore_n 2, 1) := by decide +kernel
theorem dX1_leaningOn_33 : decode cX1_leaningOn 33 = .ok (.iinc 3 1, 3) := by decide +kernel
theorem dX1_leaningOn_36 : decode cX1_leaningOn 36 = .ok (.goto (-30), 3) := by decide +kernel
theorem dX1_leaningOn_39 : decode cX1_leaningOn 39 = .ok (.iload_n 2, 1) := by decide +kernel
theorem dX1_leaningOn_40 : decode cX1_leaningOn 40 = .ok (.ireturn, 1) := by decide +kernel
set_option maxRecDepth 20000 in
theorem ggX1_beginningOf_X1_leanedOn : GoodIn wsX1_beginningOf wsX1_leanedOn := goodIn_r _ [5, 6, 7, 8, 9, 4, 10, 11, 12, 13, 14, 20, 21, 22, 23, 24, 25, 26, 27, 28, 29] (by decide +kernel) (by decide +kernel)
set_option maxRecDepth 20000 in
theorem gX1_beginningOf_X1_leanedOn : GoodIn wsX1_beginningOf (wsV RX1 108 RX1 yX1_leanedOn wsX1_leanedOn) := goodIn_app (goodIn_of _ (by decide +kernel)) ggX1_beginningOf_X1_leanedOn
set_option maxRecDepth 20000 in
theorem ggX1_beginningOf_X7_numberAt : GoodIn wsX1_beginningOf wsX7_numberAt := goodIn_r _ [16, 17, 18, 13, 19] (by decide +kernel) (by decide +kernel)
set_option maxRecDepth 20000 in
theorem gX1_beginningOf_X7_numberAt_n111 : GoodIn wsX1_beginningOf (wsX7_numberAt) := ggX1_beginningOf_X7_numberAt
theorem dX1_beginningOf_0 : decode cX1_beginningOf 0 = .ok (.aload_n 0, 1) := by decide +kernel
theorem dX1_beginningOf_1 : decode cX1_beginningOf 1 = .ok (.iload_n 1, 1) := by decide +kernel
theorem dX1_beginningOf_2 : decode cX1_beginningOf 2 = .ok (.invokevirtual 108, 3) := by decide +kernel
theorem dX1_beginningOf_5 : decode cX1_beginningOf 5 = .ok (.istore_n 2, 1) := by decide +kernel
theorem dX1_beginningOf_6 : decode cX1_beginningOf 6 = .ok (.iload_n 2, 1) := by decide +kernel
theorem dX1_beginningOf_7 : decode cX1_beginningOf 7 = .ok (.ifCond .ne 7, 3) := by decide +kernel
theorem dX1_beginningOf_10 : decode cX1_beginningOf 10 = .ok (.iload_n 1, 1) := by decide +kernel
theorem dX1_beginningOf_11 : decode cX1_beginningOf 11 = .ok (.goto 8, 3) := by decide +kernel
theorem dX1_beginningOf_14 : decode cX1_beginningOf 14 = .ok (.iload_n 2, 1) := by decide +kernel
theorem dX1_beginningOf_15 : decode cX1_beginningOf 15 = .ok (.iconst 0, 1) := by decide +kernel
theorem dX1_beginningOf_16 : decode cX1_beginningOf 16 = .ok (.invokestatic 111, 3) := by decide +kernel
theorem dX1_beginningOf_19 : decode cX1_beginningOf 19 = .ok (.ireturn, 1) := by decide +kernel
set_option maxRecDepth 20000 in
theorem ggX1_isBeginning_X1_hasNumber : GoodIn wsX1_isBeginning wsX1_hasNumber := goodIn_r _ [6, 7, 8, 9, 10, 11, 12, 13, 14, 15, 16, 17] (by decide +kernel) (by decide +kernel)
set_option maxRecDepth 20000 in
theorem gX1_isBeginning_X1_hasNumber : GoodIn wsX1_isBeginning (wsV RX1 72 RX1 yX1_hasNumber wsX1_hasNumber) := goodIn_app (goodIn_of _ (by decide +kernel)) ggX1_isBeginning_X1_hasNumber
theorem dX1_isBeginning_0 : decode cX1_isBeginning 0 = .ok (.aload_n 0, 1) := by decide +kernel
theorem dX1_isBeginning_1 : decode cX1_isBeginning 1 = .ok (.aload_n 0, 1) := by decide +kernel
theorem dX1_isBeginning_2 : decode cX1_isBeginning 2 = .ok (.getfield 27, 3) := by decide +kernel
theorem dX1_isBeginning_5 : decode cX1_isBeginning 5 = .ok (.iload_n 1, 1) := by decide +kernel
theorem dX1_isBeginning_6 : decode cX1_isBeginning 6 = .ok (.iaload, 1) := by decide +kernel
theorem dX1_isBeginning_7 : decode cX1_isBeginning 7 = .ok (.invokevirtual 72, 3) := by decide +kernel
theorem dX1_isBeginning_10 : decode cX1_isBeginning 10 = .ok (.ifCond .ne 7, 3) := by decide +kernel
theorem dX1_isBeginning_13 : decode cX1_isBeginning 13 = .ok (.iconst 1, 1) := by decide +kernel
theorem dX1_isBeginning_14 : decode cX1_isBeginning 14 = .ok (.goto 4, 3) := by decide +kernel
theorem dX1_isBeginning_17 : decode cX1_isBeginning 17 = .ok (.iconst 0, 1) := by decide +kernel
theorem dX1_isBeginning_18 : decode cX1_isBeginning 18 = .ok (.ireturn, 1) := by decide +kernel
set_option maxRecDepth 20000 in
theorem ggX1_beginningsOfSaid_X1_isSaid : GoodIn wsX1_beginningsOfSaid wsX1_isSaid := goodIn_r _ [6, 7, 8, 9, 10, 29, 30, 31, 32, 33, 34, 35, 36, 37, 38] (by decide +kernel) (by decide +kernel)
set_option maxRecDepth 20000 in
theorem gX1_beginningsOfSaid_X1_isSaid : GoodIn wsX1_beginningsOfSaid (wsV RX1 61 RX1 yX1_isSaid wsX1_isSaid) := goodIn_app (goodIn_of _ (by decide +kernel)) ggX1_beginningsOfSaid_X1_isSaid
set_option maxRecDepth 20000 in
theorem ggX1_beginningsOfSaid_X1_beginningOf : GoodIn wsX1_beginningsOfSaid wsX1_beginningOf := goodIn_r _ [14, 15, 16, 17, 5, 18, 19, 20, 21, 22, 23, 1, 24, 9, 25, 26, 27, 28, 8, 10, 29, 30, 31, 32, 33, 34, 35, 36, 37, 38] (by decide +kernel) (by decide +kernel)
set_option maxRecDepth 20000 in
theorem gX1_beginningsOfSaid_X1_beginningOf : GoodIn wsX1_beginningsOfSaid (wsV RX1 114 RX1 yX1_beginningOf wsX1_beginningOf) := goodIn_app (goodIn_of _ (by decide +kernel)) ggX1_beginningsOfSaid_X1_beginningOf
set_option maxRecDepth 20000 in
theorem ggX1_beginningsOfSaid_X7_bit : GoodIn wsX1_beginningsOfSaid wsX7_bit := goodIn_r _ [25] (by decide +kernel) (by decide +kernel)
set_option maxRecDepth 20000 in
theorem gX1_beginningsOfSaid_X7_bit_n53 : GoodIn wsX1_beginningsOfSaid (wsX7_bit) := ggX1_beginningsOfSaid_X7_bit
theorem dX1_beginningsOfSaid_0 : decode cX1_beginningsOfSaid 0 = .ok (.iconst 0, 1) := by decide +kernel
theorem dX1_beginningsOfSaid_1 : decode cX1_beginningsOfSaid 1 = .ok (.istore_n 1, 1) := by decide +kernel
theorem dX1_beginningsOfSaid_2 : decode cX1_beginningsOfSaid 2 = .ok (.iconst 0, 1) := by decide +kernel
theorem dX1_beginningsOfSaid_3 : decode cX1_beginningsOfSaid 3 = .ok (.istore_n 2, 1) := by decide +kernel
theorem dX1_beginningsOfSaid_4 : decode cX1_beginningsOfSaid 4 = .ok (.iload_n 2, 1) := by decide +kernel
theorem dX1_beginningsOfSaid_5 : decode cX1_beginningsOfSaid 5 = .ok (.aload_n 0, 1) := by decide +kernel
theorem dX1_beginningsOfSaid_6 : decode cX1_beginningsOfSaid 6 = .ok (.getfield 33, 3) := by decide +kernel
theorem dX1_beginningsOfSaid_9 : decode cX1_beginningsOfSaid 9 = .ok (.if_icmp .ge 28, 3) := by decide +kernel
theorem dX1_beginningsOfSaid_12 : decode cX1_beginningsOfSaid 12 = .ok (.aload_n 0, 1) := by decide +kernel
theorem dX1_beginningsOfSaid_13 : decode cX1_beginningsOfSaid 13 = .ok (.iload_n 2, 1) := by decide +kernel
theorem dX1_beginningsOfSaid_14 : decode cX1_beginningsOfSaid 14 = .ok (.invokevirtual 61, 3) := by decide +kernel
theorem dX1_beginningsOfSaid_17 : decode cX1_beginningsOfSaid 17 = .ok (.ifCond .eq 14, 3) := by decide +kernel
theorem dX1_beginningsOfSaid_20 : decode cX1_beginningsOfSaid 20 = .ok (.iload_n 1, 1) := by decide +kernel
theorem dX1_beginningsOfSaid_21 : decode cX1_beginningsOfSaid 21 = .ok (.aload_n 0, 1) := by decide +kernel
theorem dX1_beginningsOfSaid_22 : decode cX1_beginningsOfSaid 22 = .ok (.iload_n 2, 1) := by decide +kernel
theorem dX1_beginningsOfSaid_23 : decode cX1_beginningsOfSaid 23 = .ok (.invokevirtual 114, 3) := by decide +kernel
theorem dX1_beginningsOfSaid_26 : decode cX1_beginningsOfSaid 26 = .ok (.invokestatic 53, 3) := by decide +kernel
theorem dX1_beginningsOfSaid_29 : decode cX1_beginningsOfSaid 29 = .ok (.ior, 1) := by decide +kernel
theorem dX1_beginningsOfSaid_30 : decode cX1_beginningsOfSaid 30 = .ok (.istore_n 1, 1) := by decide +kernel
theorem dX1_beginningsOfSaid_31 : decode cX1_beginningsOfSaid 31 = .ok (.iinc 2 1, 3) := by decide +kernel
theorem dX1_beginningsOfSaid_34 : decode cX1_beginningsOfSaid 34 = .ok (.goto (-30), 3) := by decide +kernel
theorem dX1_beginningsOfSaid_37 : decode cX1_beginningsOfSaid 37 = .ok (.iload_n 1, 1) := by decide +kernel
theorem dX1_beginningsOfSaid_38 : decode cX1_beginningsOfSaid 38 = .ok (.ireturn, 1) := by decide +kernel
set_option maxRecDepth 20000 in
theorem ggX1_alikeInBundle_X1_beginningOf : GoodIn wsX1_alikeInBundle wsX1_beginningOf := goodIn_r _ [7, 8, 9, 10, 6, 11, 12, 13, 14, 15, 16, 1, 17, 18, 19, 20, 21, 22, 23, 24, 25, 26, 27, 28, 29, 30, 31, 32, 33, 34] (by decide +kernel) (by decide +kernel)
set_option maxRecDepth 20000 in
theorem gX1_alikeInBundle_X1_beginningOf : GoodIn wsX1_alikeInBundle (wsV RX1 114 RX1 yX1_beginningOf wsX1_beginningOf) := goodIn_app (goodIn_of _ (by decide +kernel)) ggX1_alikeInBundle_X1_beginningOf
theorem dX1_alikeInBundle_0 : decode cX1_alikeInBundle 0 = .ok (.aload_n 0, 1) := by decide +kernel
theorem dX1_alikeInBundle_1 : decode cX1_alikeInBundle 1 = .ok (.iload_n 1, 1) := by decide +kernel
theorem dX1_alikeInBundle_2 : decode cX1_alikeInBundle 2 = .ok (.invokevirtual 114, 3) := by decide +kernel
theorem dX1_alikeInBundle_5 : decode cX1_alikeInBundle 5 = .ok (.istore_n 2, 1) := by decide +kernel
theorem dX1_alikeInBundle_6 : decode cX1_alikeInBundle 6 = .ok (.iconst 0, 1) := by decide +kernel
theorem dX1_alikeInBundle_7 : decode cX1_alikeInBundle 7 = .ok (.istore_n 3, 1) := by decide +kernel
theorem dX1_alikeInBundle_8 : decode cX1_alikeInBundle 8 = .ok (.iconst 0, 1) := by decide +kernel
theorem dX1_alikeInBundle_9 : decode cX1_alikeInBundle 9 = .ok (.istore 4, 2) := by decide +kernel
theorem dX1_alikeInBundle_11 : decode cX1_alikeInBundle 11 = .ok (.iload 4, 2) := by decide +kernel
theorem dX1_alikeInBundle_13 : decode cX1_alikeInBundle 13 = .ok (.aload_n 0, 1) := by decide +kernel
theorem dX1_alikeInBundle_14 : decode cX1_alikeInBundle 14 = .ok (.getfield 33, 3) := by decide +kernel
theorem dX1_alikeInBundle_17 : decode cX1_alikeInBundle 17 = .ok (.if_icmp .ge 38, 3) := by decide +kernel
theorem dX1_alikeInBundle_20 : decode cX1_alikeInBundle 20 = .ok (.aload_n 0, 1) := by decide +kernel
theorem dX1_alikeInBundle_21 : decode cX1_alikeInBundle 21 = .ok (.iload 4, 2) := by decide +kernel
theorem dX1_alikeInBundle_23 : decode cX1_alikeInBundle 23 = .ok (.invokevirtual 114, 3) := by decide +kernel
theorem dX1_alikeInBundle_26 : decode cX1_alikeInBundle 26 = .ok (.iload_n 2, 1) := by decide +kernel
theorem dX1_alikeInBundle_27 : decode cX1_alikeInBundle 27 = .ok (.if_icmp .ne 22, 3) := by decide +kernel
theorem dX1_alikeInBundle_30 : decode cX1_alikeInBundle 30 = .ok (.aload_n 0, 1) := by decide +kernel
theorem dX1_alikeInBundle_31 : decode cX1_alikeInBundle 31 = .ok (.getfield 21, 3) := by decide +kernel
theorem dX1_alikeInBundle_34 : decode cX1_alikeInBundle 34 = .ok (.iload 4, 2) := by decide +kernel
theorem dX1_alikeInBundle_36 : decode cX1_alikeInBundle 36 = .ok (.iaload, 1) := by decide +kernel
theorem dX1_alikeInBundle_37 : decode cX1_alikeInBundle 37 = .ok (.aload_n 0, 1) := by decide +kernel
theorem dX1_alikeInBundle_38 : decode cX1_alikeInBundle 38 = .ok (.getfield 21, 3) := by decide +kernel
theorem dX1_alikeInBundle_41 : decode cX1_alikeInBundle 41 = .ok (.iload_n 1, 1) := by decide +kernel
theorem dX1_alikeInBundle_42 : decode cX1_alikeInBundle 42 = .ok (.iaload, 1) := by decide +kernel
theorem dX1_alikeInBundle_43 : decode cX1_alikeInBundle 43 = .ok (.if_icmp .ne 6, 3) := by decide +kernel
theorem dX1_alikeInBundle_46 : decode cX1_alikeInBundle 46 = .ok (.iinc 3 1, 3) := by decide +kernel
theorem dX1_alikeInBundle_49 : decode cX1_alikeInBundle 49 = .ok (.iinc 4 1, 3) := by decide +kernel
theorem dX1_alikeInBundle_52 : decode cX1_alikeInBundle 52 = .ok (.goto (-41), 3) := by decide +kernel
theorem dX1_alikeInBundle_55 : decode cX1_alikeInBundle 55 = .ok (.iload_n 3, 1) := by decide +kernel
theorem dX1_alikeInBundle_56 : decode cX1_alikeInBundle 56 = .ok (.ireturn, 1) := by decide +kernel
set_option maxRecDepth 20000 in
theorem ggX1_deepest_X1_leanedOn : GoodIn wsX1_deepest wsX1_leanedOn := goodIn_r _ [6, 7, 8, 9, 10, 5, 11, 1, 12, 13, 14, 22, 23, 24, 25, 26, 27, 28, 29, 30, 31] (by decide +kernel) (by decide +kernel)
set_option maxRecDepth 20000 in
theorem gX1_deepest_X1_leanedOn : GoodIn wsX1_deepest (wsV RX1 108 RX1 yX1_leanedOn wsX1_leanedOn) := goodIn_app (goodIn_of _ (by decide +kernel)) ggX1_deepest_X1_leanedOn
set_option maxRecDepth 20000 in
theorem ggX1_deepest_J6_bitCount_0f7a4 : GoodIn wsX1_deepest wsJ6_bitCount_0f7a4 := goodIn_r _ [18, 19, 20, 21] (by decide +kernel) (by decide +kernel)
set_option maxRecDepth 20000 in
theorem gX1_deepest_J6_bitCount_0f7a4 : GoodIn wsX1_deepest (va_wsS RX1 85 yJ6_bitCount_0f7a4 wsJ6_bitCount_0f7a4) := goodIn_app (goodIn_of _ (by decide +kernel)) ggX1_deepest_J6_bitCount_0f7a4
theorem dX1_deepest_0 : decode cX1_deepest 0 = .ok (.bipush (-9), 2) := by decide +kernel
theorem dX1_deepest_2 : decode cX1_deepest 2 = .ok (.istore_n 1, 1) := by decide +kernel
theorem dX1_deepest_3 : decode cX1_deepest 3 = .ok (.iconst (-1), 1) := by decide +kernel
theorem dX1_deepest_4 : decode cX1_deepest 4 = .ok (.istore_n 2, 1) := by decide +kernel
theorem dX1_deepest_5 : decode cX1_deepest 5 = .ok (.iconst 0, 1) := by decide +kernel
theorem dX1_deepest_6 : decode cX1_deepest 6 = .ok (.istore_n 3, 1) := by decide +kernel
theorem dX1_deepest_7 : decode cX1_deepest 7 = .ok (.iload_n 3, 1) := by decide +kernel
theorem dX1_deepest_8 : decode cX1_deepest 8 = .ok (.aload_n 0, 1) := by decide +kernel
theorem dX1_deepest_9 : decode cX1_deepest 9 = .ok (.getfield 33, 3) := by decide +kernel
theorem dX1_deepest_12 : decode cX1_deepest 12 = .ok (.if_icmp .ge 30, 3) := by decide +kernel
theorem dX1_deepest_15 : decode cX1_deepest 15 = .ok (.aload_n 0, 1) := by decide +kernel
theorem dX1_deepest_16 : decode cX1_deepest 16 = .ok (.iload_n 3, 1) := by decide +kernel
theorem dX1_deepest_17 : decode cX1_deepest 17 = .ok (.invokevirtual 108, 3) := by decide +kernel
theorem dX1_deepest_20 : decode cX1_deepest 20 = .ok (.invokestatic 85, 3) := by decide +kernel
theorem dX1_deepest_23 : decode cX1_deepest 23 = .ok (.istore 4, 2) := by decide +kernel
theorem dX1_deepest_25 : decode cX1_deepest 25 = .ok (.iload 4, 2) := by decide +kernel
theorem dX1_deepest_27 : decode cX1_deepest 27 = .ok (.iload_n 2, 1) := by decide +kernel
theorem dX1_deepest_28 : decode cX1_deepest 28 = .ok (.if_icmp .le 8, 3) := by decide +kernel
theorem dX1_deepest_31 : decode cX1_deepest 31 = .ok (.iload 4, 2) := by decide +kernel
theorem dX1_deepest_33 : decode cX1_deepest 33 = .ok (.istore_n 2, 1) := by decide +kernel
theorem dX1_deepest_34 : decode cX1_deepest 34 = .ok (.iload_n 3, 1) := by decide +kernel
theorem dX1_deepest_35 : decode cX1_deepest 35 = .ok (.istore_n 1, 1) := by decide +kernel
theorem dX1_deepest_36 : decode cX1_deepest 36 = .ok (.iinc 3 1, 3) := by decide +kernel
theorem dX1_deepest_39 : decode cX1_deepest 39 = .ok (.goto (-32), 3) := by decide +kernel
theorem dX1_deepest_42 : decode cX1_deepest 42 = .ok (.iload_n 1, 1) := by decide +kernel
theorem dX1_deepest_43 : decode cX1_deepest 43 = .ok (.ireturn, 1) := by decide +kernel
set_option maxRecDepth 20000 in
theorem ggX1_howManyOf_X1_isOf : GoodIn wsX1_howManyOf wsX1_isOf := goodIn_r _ [6, 7, 8, 9, 10, 11, 12, 13, 14, 15, 16, 17] (by decide +kernel) (by decide +kernel)
set_option maxRecDepth 20000 in
theorem gX1_howManyOf_X1_isOf : GoodIn wsX1_howManyOf (wsV RX1 117 RX1 yX1_isOf wsX1_isOf) := goodIn_app (goodIn_of _ (by decide +kernel)) ggX1_howManyOf_X1_isOf
theorem dX1_howManyOf_0 : decode cX1_howManyOf 0 = .ok (.iconst 0, 1) := by decide +kernel
theorem dX1_howManyOf_1 : decode cX1_howManyOf 1 = .ok (.istore_n 2, 1) := by decide +kernel
theorem dX1_howManyOf_2 : decode cX1_howManyOf 2 = .ok (.iconst 0, 1) := by decide +kernel
theorem dX1_howManyOf_3 : decode cX1_howManyOf 3 = .ok (.istore_n 3, 1) := by decide +kernel
theorem dX1_howManyOf_4 : decode cX1_howManyOf 4 = .ok (.iload_n 3, 1) := by decide +kernel
theorem dX1_howManyOf_5 : decode cX1_howManyOf 5 = .ok (.aload_n 0, 1) := by decide +kernel
theorem dX1_howManyOf_6 : decode cX1_howManyOf 6 = .ok (.getfield 33, 3) := by decide +kernel
theorem dX1_howManyOf_9 : decode cX1_howManyOf 9 = .ok (.if_icmp .ge 21, 3) := by decide +kernel
theorem dX1_howManyOf_12 : decode cX1_howManyOf 12 = .ok (.aload_n 0, 1) := by decide +kernel
theorem dX1_howManyOf_13 : decode cX1_howManyOf 13 = .ok (.iload_n 3, 1) := by decide +kernel
theorem dX1_howManyOf_14 : decode cX1_howManyOf 14 = .ok (.iload_n 1, 1) := by decide +kernel
theorem dX1_howManyOf_15 : decode cX1_howManyOf 15 = .ok (.invokevirtual 117, 3) := by decide +kernel
theorem dX1_howManyOf_18 : decode cX1_howManyOf 18 = .ok (.ifCond .eq 6, 3) := by decide +kernel
theorem dX1_howManyOf_21 : decode cX1_howManyOf 21 = .ok (.iinc 2 1, 3) := by decide +kernel
theorem dX1_howManyOf_24 : decode cX1_howManyOf 24 = .ok (.iinc 3 1, 3) := by decide +kernel
theorem dX1_howManyOf_27 : decode cX1_howManyOf 27 = .ok (.goto (-23), 3) := by decide +kernel
theorem dX1_howManyOf_30 : decode cX1_howManyOf 30 = .ok (.iload_n 2, 1) := by decide +kernel
theorem dX1_howManyOf_31 : decode cX1_howManyOf 31 = .ok (.ireturn, 1) := by decide +kernel
set_option maxRecDepth 20000 in
theorem ggX1_beginners_X1_isBeginning : GoodIn wsX1_beginners wsX1_isBeginning := goodIn_r _ [7, 8, 9, 10, 11, 6, 12, 1, 16, 17, 18, 19, 20, 21, 22, 23, 24, 25] (by decide +kernel) (by decide +kernel)
set_option maxRecDepth 20000 in
theorem gX1_beginners_X1_isBeginning : GoodIn wsX1_beginners (wsV RX1 120 RX1 yX1_isBeginning wsX1_isBeginning) := goodIn_app (goodIn_of _ (by decide +kernel)) ggX1_beginners_X1_isBeginning
set_option maxRecDepth 20000 in
theorem ggX1_beginners_X7_bit : GoodIn wsX1_beginners wsX7_bit := goodIn_r _ [15] (by decide +kernel) (by decide +kernel)
set_option maxRecDepth 20000 in
theorem gX1_beginners_X7_bit_n53 : GoodIn wsX1_beginners (wsX7_bit) := ggX1_beginners_X7_bit
theorem dX1_beginners_0 : decode cX1_beginners 0 = .ok (.iconst 0, 1) := by decide +kernel
theorem dX1_beginners_1 : decode cX1_beginners 1 = .ok (.istore_n 1, 1) := by decide +kernel
theorem dX1_beginners_2 : decode cX1_beginners 2 = .ok (.iconst 0, 1) := by decide +kernel
theorem dX1_beginners_3 : decode cX1_beginners 3 = .ok (.istore_n 2, 1) := by decide +kernel
theorem dX1_beginners_4 : decode cX1_beginners 4 = .ok (.iload_n 2, 1) := by decide +kernel
theorem dX1_beginners_5 : decode cX1_beginners 5 = .ok (.aload_n 0, 1) := by decide +kernel
theorem dX1_beginners_6 : decode cX1_beginners 6 = .ok (.getfield 33, 3) := by decide +kernel
theorem dX1_beginners_9 : decode cX1_beginners 9 = .ok (.if_icmp .ge 29, 3) := by decide +kernel
theorem dX1_beginners_12 : decode cX1_beginners 12 = .ok (.aload_n 0, 1) := by decide +kernel
theorem dX1_beginners_13 : decode cX1_beginners 13 = .ok (.iload_n 2, 1) := by decide +kernel
theorem dX1_beginners_14 : decode cX1_beginners 14 = .ok (.invokevirtual 120, 3) := by decide +kernel
theorem dX1_beginners_17 : decode cX1_beginners 17 = .ok (.ifCond .eq 15, 3) := by decide +kernel
theorem dX1_beginners_20 : decode cX1_beginners 20 = .ok (.iload_n 1, 1) := by decide +kernel
theorem dX1_beginners_21 : decode cX1_beginners 21 = .ok (.aload_n 0, 1) := by decide +kernel
theorem dX1_beginners_22 : decode cX1_beginners 22 = .ok (.getfield 15, 3) := by decide +kernel
theorem dX1_beginners_25 : decode cX1_beginners 25 = .ok (.iload_n 2, 1) := by decide +kernel
theorem dX1_beginners_26 : decode cX1_beginners 26 = .ok (.iaload, 1) := by decide +kernel
theorem dX1_beginners_27 : decode cX1_beginners 27 = .ok (.invokestatic 53, 3) := by decide +kernel
theorem dX1_beginners_30 : decode cX1_beginners 30 = .ok (.ior, 1) := by decide +kernel
theorem dX1_beginners_31 : decode cX1_beginners 31 = .ok (.istore_n 1, 1) := by decide +kernel
theorem dX1_beginners_32 : decode cX1_beginners 32 = .ok (.iinc 2 1, 3) := by decide +kernel
theorem dX1_beginners_35 : decode cX1_beginners 35 = .ok (.goto (-31), 3) := by decide +kernel
theorem dX1_beginners_38 : decode cX1_beginners 38 = .ok (.iload_n 1, 1) := by decide +kernel
theorem dX1_beginners_39 : decode cX1_beginners 39 = .ok (.ireturn, 1) := by decide +kernel
set_option maxRecDepth 20000 in
theorem ggX1_begunBy_X1_beginningOf : GoodIn wsX1_begunBy wsX1_beginningOf := goodIn_r _ [7, 8, 9, 10, 6, 11, 12, 13, 14, 15, 16, 1, 17, 18, 19, 20, 21, 22, 23, 24, 25, 26, 27, 28, 29, 30, 31, 32, 33, 34] (by decide +kernel) (by decide +kernel)
set_option maxRecDepth 20000 in
theorem gX1_begunBy_X1_beginningOf : GoodIn wsX1_begunBy (wsV RX1 114 RX1 yX1_beginningOf wsX1_beginningOf) := goodIn_app (goodIn_of _ (by decide +kernel)) ggX1_begunBy_X1_beginningOf
set_option maxRecDepth 20000 in
theorem ggX1_begunBy_X7_bit : GoodIn wsX1_begunBy wsX7_bit := goodIn_r _ [19] (by decide +kernel) (by decide +kernel)
set_option maxRecDepth 20000 in
theorem gX1_begunBy_X7_bit_n53 : GoodIn wsX1_begunBy (wsX7_bit) := ggX1_begunBy_X7_bit
theorem dX1_begunBy_0 : decode cX1_begunBy 0 = .ok (.iconst 0, 1) := by decide +kernel
theorem dX1_begunBy_1 : decode cX1_begunBy 1 = .ok (.istore_n 2, 1) := by decide +kernel
theorem dX1_begunBy_2 : decode cX1_begunBy 2 = .ok (.iconst 0, 1) := by decide +kernel
theorem dX1_begunBy_3 : decode cX1_begunBy 3 = .ok (.istore_n 3, 1) := by decide +kernel
theorem dX1_begunBy_4 : decode cX1_begunBy 4 = .ok (.iload_n 3, 1) := by decide +kernel
theorem dX1_begunBy_5 : decode cX1_begunBy 5 = .ok (.aload_n 0, 1) := by decide +kernel
theorem dX1_begunBy_6 : decode cX1_begunBy 6 = .ok (.getfield 33, 3) := by decide +kernel
theorem dX1_begunBy_9 : decode cX1_begunBy 9 = .ok (.if_icmp .ge 30, 3) := by decide +kernel
theorem dX1_begunBy_12 : decode cX1_begunBy 12 = .ok (.aload_n 0, 1) := by decide +kernel
theorem dX1_begunBy_13 : decode cX1_begunBy 13 = .ok (.getfield 15, 3) := by decide +kernel
theorem dX1_begunBy_16 : decode cX1_begunBy 16 = .ok (.aload_n 0, 1) := by decide +kernel
theorem dX1_begunBy_17 : decode cX1_begunBy 17 = .ok (.iload_n 3, 1) := by decide +kernel
theorem dX1_begunBy_18 : decode cX1_begunBy 18 = .ok (.invokevirtual 114, 3) := by decide +kernel
theorem dX1_begunBy_21 : decode cX1_begunBy 21 = .ok (.iaload, 1) := by decide +kernel
theorem dX1_begunBy_22 : decode cX1_begunBy 22 = .ok (.iload_n 1, 1) := by decide +kernel
theorem dX1_begunBy_23 : decode cX1_begunBy 23 = .ok (.if_icmp .ne 10, 3) := by decide +kernel
theorem dX1_begunBy_26 : decode cX1_begunBy 26 = .ok (.iload_n 2, 1) := by decide +kernel
theorem dX1_begunBy_27 : decode cX1_begunBy 27 = .ok (.iload_n 3, 1) := by decide +kernel
theorem dX1_begunBy_28 : decode cX1_begunBy 28 = .ok (.invokestatic 53, 3) := by decide +kernel
theorem dX1_begunBy_31 : decode cX1_begunBy 31 = .ok (.ior, 1) := by decide +kernel
theorem dX1_begunBy_32 : decode cX1_begunBy 32 = .ok (.istore_n 2, 1) := by decide +kernel
theorem dX1_begunBy_33 : decode cX1_begunBy 33 = .ok (.iinc 3 1, 3) := by decide +kernel
theorem dX1_begunBy_36 : decode cX1_begunBy 36 = .ok (.goto (-32), 3) := by decide +kernel
theorem dX1_begunBy_39 : decode cX1_begunBy 39 = .ok (.iload_n 2, 1) := by decide +kernel
theorem dX1_begunBy_40 : decode cX1_begunBy 40 = .ok (.ireturn, 1) := by decide +kernel
set_option maxRecDepth 20000 in
theorem ggX1_saidBeginnings_X1_isSaid : GoodIn wsX1_saidBeginnings wsX1_isSaid := goodIn_r _ [8, 9, 10, 11, 12, 22, 23, 24, 25, 26, 27, 28, 29, 30, 31] (by decide +kernel) (by decide +kernel)
set_option maxRecDepth 20000 in
theorem gX1_saidBeginnings_X1_isSaid : GoodIn wsX1_saidBeginnings (wsV RX1 61 RX1 yX1_isSaid wsX1_isSaid) := goodIn_app (goodIn_of _ (by decide +kernel)) ggX1_saidBeginnings_X1_isSaid
set_option maxRecDepth 20000 in
theorem ggX1_saidBeginnings_X1_isBeginning : GoodIn wsX1_saidBeginnings wsX1_isBeginning := goodIn_r _ [16, 17, 18, 19, 20, 7, 21, 1, 22, 23, 24, 25, 26, 27, 28, 29, 30, 31] (by decide +kernel) (by decide +kernel)
set_option maxRecDepth 20000 in
theorem gX1_saidBeginnings_X1_isBeginning : GoodIn wsX1_saidBeginnings (wsV RX1 120 RX1 yX1_isBeginning wsX1_isBeginning) := goodIn_app (goodIn_of _ (by decide +kernel)) ggX1_saidBeginnings_X1_isBeginning
theorem dX1_saidBeginnings_0 : decode cX1_saidBeginnings 0 = .ok (.iconst 0, 1) := by decide +kernel
theorem dX1_saidBeginnings_1 : decode cX1_saidBeginnings 1 = .ok (.istore_n 3, 1) := by decide +kernel
theorem dX1_saidBeginnings_2 : decode cX1_saidBeginnings 2 = .ok (.iconst 0, 1) := by decide +kernel
theorem dX1_saidBeginnings_3 : decode cX1_saidBeginnings 3 = .ok (.istore 4, 2) := by decide +kernel
theorem dX1_saidBeginnings_5 : decode cX1_saidBeginnings 5 = .ok (.iload 4, 2) := by decide +kernel
theorem dX1_saidBeginnings_7 : decode cX1_saidBeginnings 7 = .ok (.aload_n 0, 1) := by decide +kernel
theorem dX1_saidBeginnings_8 : decode cX1_saidBeginnings 8 = .ok (.getfield 33, 3) := by decide +kernel
theorem dX1_saidBeginnings_11 : decode cX1_saidBeginnings 11 = .ok (.if_icmp .ge 52, 3) := by decide +kernel
theorem dX1_saidBeginnings_14 : decode cX1_saidBeginnings 14 = .ok (.aload_n 0, 1) := by decide +kernel
theorem dX1_saidBeginnings_15 : decode cX1_saidBeginnings 15 = .ok (.iload 4, 2) := by decide +kernel
theorem dX1_saidBeginnings_17 : decode cX1_saidBeginnings 17 = .ok (.invokevirtual 61, 3) := by decide +kernel
theorem dX1_saidBeginnings_20 : decode cX1_saidBeginnings 20 = .ok (.ifCond .eq 37, 3) := by decide +kernel
theorem dX1_saidBeginnings_23 : decode cX1_saidBeginnings 23 = .ok (.aload_n 0, 1) := by decide +kernel
theorem dX1_saidBeginnings_24 : decode cX1_saidBeginnings 24 = .ok (.iload 4, 2) := by decide +kernel
theorem dX1_saidBeginnings_26 : decode cX1_saidBeginnings 26 = .ok (.invokevirtual 120, 3) := by decide +kernel
theorem dX1_saidBeginnings_29 : decode cX1_saidBeginnings 29 = .ok (.ifCond .eq 28, 3) := by decide +kernel
theorem dX1_saidBeginnings_32 : decode cX1_saidBeginnings 32 = .ok (.aload_n 0, 1) := by decide +kernel
theorem dX1_saidBeginnings_33 : decode cX1_saidBeginnings 33 = .ok (.getfield 15, 3) := by decide +kernel
theorem dX1_saidBeginnings_36 : decode cX1_saidBeginnings 36 = .ok (.iload 4, 2) := by decide +kernel
theorem dX1_saidBeginnings_38 : decode cX1_saidBeginnings 38 = .ok (.iaload, 1) := by decide +kernel
theorem dX1_saidBeginnings_39 : decode cX1_saidBeginnings 39 = .ok (.iload_n 1, 1) := by decide +kernel
theorem dX1_saidBeginnings_40 : decode cX1_saidBeginnings 40 = .ok (.if_icmp .ne 17, 3) := by decide +kernel
theorem dX1_saidBeginnings_43 : decode cX1_saidBeginnings 43 = .ok (.aload_n 0, 1) := by decide +kernel
theorem dX1_saidBeginnings_44 : decode cX1_saidBeginnings 44 = .ok (.getfield 18, 3) := by decide +kernel
theorem dX1_saidBeginnings_47 : decode cX1_saidBeginnings 47 = .ok (.iload 4, 2) := by decide +kernel
theorem dX1_saidBeginnings_49 : decode cX1_saidBeginnings 49 = .ok (.iaload, 1) := by decide +kernel
theorem dX1_saidBeginnings_50 : decode cX1_saidBeginnings 50 = .ok (.iload_n 2, 1) := by decide +kernel
theorem dX1_saidBeginnings_51 : decode cX1_saidBeginnings 51 = .ok (.if_icmp .ne 6, 3) := by decide +kernel
theorem dX1_saidBeginnings_54 : decode cX1_saidBeginnings 54 = .ok (.iinc 3 1, 3) := by decide +kernel
theorem dX1_saidBeginnings_57 : decode cX1_saidBeginnings 57 = .ok (.iinc 4 1, 3) := by decide +kernel
theorem dX1_saidBeginnings_60 : decode cX1_saidBeginnings 60 = .ok (.goto (-55), 3) := by decide +kernel
theorem dX1_saidBeginnings_63 : decode cX1_saidBeginnings 63 = .ok (.iload_n 3, 1) := by decide +kernel
theorem dX1_saidBeginnings_64 : decode cX1_saidBeginnings 64 = .ok (.ireturn, 1) := by decide +kernel
set_option maxRecDepth 20000 in
theorem ggX1_personsOfSaid_X1_isSaid : GoodIn wsX1_personsOfSaid wsX1_isSaid := goodIn_r _ [8, 9, 10, 11, 12, 15, 16, 17, 18, 19, 20, 21, 22, 23, 24] (by decide +kernel) (by decide +kernel)
set_option maxRecDepth 20000 in
theorem gX1_personsOfSaid_X1_isSaid : GoodIn wsX1_personsOfSaid (wsV RX1 61 RX1 yX1_isSaid wsX1_isSaid) := goodIn_app (goodIn_of _ (by decide +kernel)) ggX1_personsOfSaid_X1_isSaid
set_option maxRecDepth 20000 in
theorem ggX1_personsOfSaid_X7_bit : GoodIn wsX1_personsOfSaid wsX7_bit := goodIn_r _ [14] (by decide +kernel) (by decide +kernel)
set_option maxRecDepth 20000 in
theorem gX1_personsOfSaid_X7_bit_n53 : GoodIn wsX1_personsOfSaid (wsX7_bit) := ggX1_personsOfSaid_X7_bit
theorem dX1_personsOfSaid_0 : decode cX1_personsOfSaid 0 = .ok (.iconst 0, 1) := by decide +kernel
theorem dX1_personsOfSaid_1 : decode cX1_personsOfSaid 1 = .ok (.istore_n 1, 1) := by decide +kernel
theorem dX1_personsOfSaid_2 : decode cX1_personsOfSaid 2 = .ok (.iconst 0, 1) := by decide +kernel
theorem dX1_personsOfSaid_3 : decode cX1_personsOfSaid 3 = .ok (.istore_n 2, 1) := by decide +kernel
theorem dX1_personsOfSaid_4 : decode cX1_personsOfSaid 4 = .ok (.iload_n 2, 1) := by decide +kernel
theorem dX1_personsOfSaid_5 : decode cX1_personsOfSaid 5 = .ok (.aload_n 0, 1) := by decide +kernel
theorem dX1_personsOfSaid_6 : decode cX1_personsOfSaid 6 = .ok (.getfield 33, 3) := by decide +kernel
theorem dX1_personsOfSaid_9 : decode cX1_personsOfSaid 9 = .ok (.if_icmp .ge 39, 3) := by decide +kernel
theorem dX1_personsOfSaid_12 : decode cX1_personsOfSaid 12 = .ok (.aload_n 0, 1) := by decide +kernel
theorem dX1_personsOfSaid_13 : decode cX1_personsOfSaid 13 = .ok (.iload_n 2, 1) := by decide +kernel
theorem dX1_personsOfSaid_14 : decode cX1_personsOfSaid 14 = .ok (.invokevirtual 61, 3) := by decide +kernel
theorem dX1_personsOfSaid_17 : decode cX1_personsOfSaid 17 = .ok (.ifCond .eq 25, 3) := by decide +kernel
theorem dX1_personsOfSaid_20 : decode cX1_personsOfSaid 20 = .ok (.iload_n 1, 1) := by decide +kernel
theorem dX1_personsOfSaid_21 : decode cX1_personsOfSaid 21 = .ok (.aload_n 0, 1) := by decide +kernel
theorem dX1_personsOfSaid_22 : decode cX1_personsOfSaid 22 = .ok (.getfield 15, 3) := by decide +kernel
theorem dX1_personsOfSaid_25 : decode cX1_personsOfSaid 25 = .ok (.iload_n 2, 1) := by decide +kernel
theorem dX1_personsOfSaid_26 : decode cX1_personsOfSaid 26 = .ok (.iaload, 1) := by decide +kernel
theorem dX1_personsOfSaid_27 : decode cX1_personsOfSaid 27 = .ok (.invokestatic 53, 3) := by decide +kernel
theorem dX1_personsOfSaid_30 : decode cX1_personsOfSaid 30 = .ok (.aload_n 0, 1) := by decide +kernel
theorem dX1_personsOfSaid_31 : decode cX1_personsOfSaid 31 = .ok (.getfield 18, 3) := by decide +kernel
theorem dX1_personsOfSaid_34 : decode cX1_personsOfSaid 34 = .ok (.iload_n 2, 1) := by decide +kernel
theorem dX1_personsOfSaid_35 : decode cX1_personsOfSaid 35 = .ok (.iaload, 1) := by decide +kernel
theorem dX1_personsOfSaid_36 : decode cX1_personsOfSaid 36 = .ok (.invokestatic 53, 3) := by decide +kernel
theorem dX1_personsOfSaid_39 : decode cX1_personsOfSaid 39 = .ok (.ior, 1) := by decide +kernel
theorem dX1_personsOfSaid_40 : decode cX1_personsOfSaid 40 = .ok (.ior, 1) := by decide +kernel
theorem dX1_personsOfSaid_41 : decode cX1_personsOfSaid 41 = .ok (.istore_n 1, 1) := by decide +kernel
theorem dX1_personsOfSaid_42 : decode cX1_personsOfSaid 42 = .ok (.iinc 2 1, 3) := by decide +kernel
theorem dX1_personsOfSaid_45 : decode cX1_personsOfSaid 45 = .ok (.goto (-41), 3) := by decide +kernel
theorem dX1_personsOfSaid_48 : decode cX1_personsOfSaid 48 = .ok (.iload_n 1, 1) := by decide +kernel
theorem dX1_personsOfSaid_49 : decode cX1_personsOfSaid 49 = .ok (.ireturn, 1) := by decide +kernel
set_option maxRecDepth 20000 in
theorem ggX1_toldAhead_X7_bit : GoodIn wsX1_toldAhead wsX7_bit := goodIn_r _ [4] (by decide +kernel) (by decide +kernel)
set_option maxRecDepth 20000 in
theorem gX1_toldAhead_X7_bit_n53 : GoodIn wsX1_toldAhead (wsX7_bit) := ggX1_toldAhead_X7_bit
theorem dX1_toldAhead_0 : decode cX1_toldAhead 0 = .ok (.iconst 0, 1) := by decide +kernel
theorem dX1_toldAhead_1 : decode cX1_toldAhead 1 = .ok (.istore_n 2, 1) := by decide +kernel
theorem dX1_toldAhead_2 : decode cX1_toldAhead 2 = .ok (.iconst 0, 1) := by decide +kernel
theorem dX1_toldAhead_3 : decode cX1_toldAhead 3 = .ok (.istore_n 3, 1) := by decide +kernel
theorem dX1_toldAhead_4 : decode cX1_toldAhead 4 = .ok (.iload_n 3, 1) := by decide +kernel
theorem dX1_toldAhead_5 : decode cX1_toldAhead 5 = .ok (.iload_n 1, 1) := by decide +kernel
theorem dX1_toldAhead_6 : decode cX1_toldAhead 6 = .ok (.if_icmp .ge 21, 3) := by decide +kernel
theorem dX1_toldAhead_9 : decode cX1_toldAhead 9 = .ok (.iload_n 2, 1) := by decide +kernel
theorem dX1_toldAhead_10 : decode cX1_toldAhead 10 = .ok (.aload_n 0, 1) := by decide +kernel
theorem dX1_toldAhead_11 : decode cX1_toldAhead 11 = .ok (.getfield 18, 3) := by decide +kernel
theorem dX1_toldAhead_14 : decode cX1_toldAhead 14 = .ok (.iload_n 3, 1) := by decide +kernel
theorem dX1_toldAhead_15 : decode cX1_toldAhead 15 = .ok (.iaload, 1) := by decide +kernel
theorem dX1_toldAhead_16 : decode cX1_toldAhead 16 = .ok (.invokestatic 53, 3) := by decide +kernel
theorem dX1_toldAhead_19 : decode cX1_toldAhead 19 = .ok (.ior, 1) := by decide +kernel
theorem dX1_toldAhead_20 : decode cX1_toldAhead 20 = .ok (.istore_n 2, 1) := by decide +kernel
theorem dX1_toldAhead_21 : decode cX1_toldAhead 21 = .ok (.iinc 3 1, 3) := by decide +kernel
theorem dX1_toldAhead_24 : decode cX1_toldAhead 24 = .ok (.goto (-20), 3) := by decide +kernel
theorem dX1_toldAhead_27 : decode cX1_toldAhead 27 = .ok (.iload_n 2, 1) := by decide +kernel
theorem dX1_toldAhead_28 : decode cX1_toldAhead 28 = .ok (.ireturn, 1) := by decide +kernel
