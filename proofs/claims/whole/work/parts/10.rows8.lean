theorem dX12_unsay_35 : decode cX12_unsay 35 = .ok (.getfield 134, 3) := by decide +kernel
theorem dX12_unsay_38 : decode cX12_unsay 38 = .ok (.if_icmp .lt 8, 3) := by decide +kernel
theorem dX12_unsay_41 : decode cX12_unsay 41 = .ok (.bipush (-4), 2) := by decide +kernel
theorem dX12_unsay_43 : decode cX12_unsay 43 = .ok (.goto 23, 3) := by decide +kernel
theorem dX12_unsay_46 : decode cX12_unsay 46 = .ok (.aload_n 0, 1) := by decide +kernel
theorem dX12_unsay_47 : decode cX12_unsay 47 = .ok (.iload_n 1, 1) := by decide +kernel
theorem dX12_unsay_48 : decode cX12_unsay 48 = .ok (.aload_n 0, 1) := by decide +kernel
theorem dX12_unsay_49 : decode cX12_unsay 49 = .ok (.getfield 56, 3) := by decide +kernel
theorem dX12_unsay_52 : decode cX12_unsay 52 = .ok (.iload_n 2, 1) := by decide +kernel
theorem dX12_unsay_53 : decode cX12_unsay 53 = .ok (.iaload, 1) := by decide +kernel
theorem dX12_unsay_54 : decode cX12_unsay 54 = .ok (.iload_n 3, 1) := by decide +kernel
theorem dX12_unsay_55 : decode cX12_unsay 55 = .ok (.invokevirtual 165, 3) := by decide +kernel
theorem dX12_unsay_58 : decode cX12_unsay 58 = .ok (.ifCond .eq 7, 3) := by decide +kernel
theorem dX12_unsay_61 : decode cX12_unsay 61 = .ok (.iconst 1, 1) := by decide +kernel
theorem dX12_unsay_62 : decode cX12_unsay 62 = .ok (.goto 4, 3) := by decide +kernel
theorem dX12_unsay_65 : decode cX12_unsay 65 = .ok (.iconst 0, 1) := by decide +kernel
theorem dX12_unsay_66 : decode cX12_unsay 66 = .ok (.ireturn, 1) := by decide +kernel
set_option maxRecDepth 20000 in
theorem ggX12_open_X12_isPlace : GoodIn wsX12_open wsX12_isPlace := goodIn_r _ [9, 3, 10, 11, 8, 12, 52, 53, 54, 55, 56, 57, 58, 59, 60, 61, 62, 63, 64, 65, 66, 67, 68, 69, 70, 71, 72, 73, 74, 75] (by decide +kernel) (by decide +kernel)
set_option maxRecDepth 20000 in
theorem gX12_open_X12_isPlace : GoodIn wsX12_open (wsV RX12 118 RX12 yX12_isPlace wsX12_isPlace) := goodIn_app (goodIn_of _ (by decide +kernel)) ggX12_open_X12_isPlace
set_option maxRecDepth 20000 in
theorem ggX12_open_X12_playsNow : GoodIn wsX12_open wsX12_playsNow := goodIn_r _ [16, 17, 18, 19, 8, 20, 21, 1, 22, 23, 24, 25, 26, 27, 28, 29, 30, 31, 32, 2, 33, 34, 35, 3, 36, 37, 38, 39, 40, 41, 42, 43, 4, 44, 45, 46, 47, 52, 53, 54, 55, 56, 57, 58, 59, 60, 61, 62, 63, 64, 65, 66, 67, 68, 69, 70, 71, 72, 73, 74, 75] (by decide +kernel) (by decide +kernel)
set_option maxRecDepth 20000 in
theorem gX12_open_X12_playsNow : GoodIn wsX12_open (wsV RX12 156 RX12 yX12_playsNow wsX12_playsNow) := goodIn_app (goodIn_of _ (by decide +kernel)) ggX12_open_X12_playsNow
set_option maxRecDepth 20000 in
theorem ggX12_open_X12_goes : GoodIn wsX12_open wsX12_goes := goodIn_r _ [51, 27, 1, 3, 34, 21, 17, 18, 19, 8, 20, 22, 23, 24, 25, 26, 28, 29, 30, 31, 32, 2, 33, 35, 36, 37, 38, 39, 40, 41, 42, 43, 4, 44, 45, 46, 47, 52, 53, 54, 55, 56, 57, 58, 59, 60, 61, 62, 63, 64, 65, 66, 67, 68, 69, 70, 71, 72, 73, 74, 75] (by decide +kernel) (by decide +kernel)
set_option maxRecDepth 20000 in
theorem gX12_open_X12_goes : GoodIn wsX12_open (wsV RX12 165 RX12 yX12_goes wsX12_goes) := goodIn_app (goodIn_of _ (by decide +kernel)) ggX12_open_X12_goes
theorem dX12_open_0 : decode cX12_open 0 = .ok (.aload_n 0, 1) := by decide +kernel
theorem dX12_open_1 : decode cX12_open 1 = .ok (.iload_n 1, 1) := by decide +kernel
theorem dX12_open_2 : decode cX12_open 2 = .ok (.invokevirtual 118, 3) := by decide +kernel
theorem dX12_open_5 : decode cX12_open 5 = .ok (.ifCond .ne 5, 3) := by decide +kernel
theorem dX12_open_8 : decode cX12_open 8 = .ok (.iconst (-1), 1) := by decide +kernel
theorem dX12_open_9 : decode cX12_open 9 = .ok (.ireturn, 1) := by decide +kernel
theorem dX12_open_10 : decode cX12_open 10 = .ok (.iconst 0, 1) := by decide +kernel
theorem dX12_open_11 : decode cX12_open 11 = .ok (.istore_n 2, 1) := by decide +kernel
theorem dX12_open_12 : decode cX12_open 12 = .ok (.aload_n 0, 1) := by decide +kernel
theorem dX12_open_13 : decode cX12_open 13 = .ok (.iload_n 1, 1) := by decide +kernel
theorem dX12_open_14 : decode cX12_open 14 = .ok (.aload_n 0, 1) := by decide +kernel
theorem dX12_open_15 : decode cX12_open 15 = .ok (.getfield 19, 3) := by decide +kernel
theorem dX12_open_18 : decode cX12_open 18 = .ok (.iconst 1, 1) := by decide +kernel
theorem dX12_open_19 : decode cX12_open 19 = .ok (.iaload, 1) := by decide +kernel
theorem dX12_open_20 : decode cX12_open 20 = .ok (.invokevirtual 156, 3) := by decide +kernel
theorem dX12_open_23 : decode cX12_open 23 = .ok (.aload_n 0, 1) := by decide +kernel
theorem dX12_open_24 : decode cX12_open 24 = .ok (.getfield 134, 3) := by decide +kernel
theorem dX12_open_27 : decode cX12_open 27 = .ok (.istore_n 3, 1) := by decide +kernel
theorem dX12_open_28 : decode cX12_open 28 = .ok (.iconst 0, 1) := by decide +kernel
theorem dX12_open_29 : decode cX12_open 29 = .ok (.istore 4, 2) := by decide +kernel
theorem dX12_open_31 : decode cX12_open 31 = .ok (.iload 4, 2) := by decide +kernel
theorem dX12_open_33 : decode cX12_open 33 = .ok (.iload_n 3, 1) := by decide +kernel
theorem dX12_open_34 : decode cX12_open 34 = .ok (.if_icmp .ge 85, 3) := by decide +kernel
theorem dX12_open_37 : decode cX12_open 37 = .ok (.iconst 0, 1) := by decide +kernel
theorem dX12_open_38 : decode cX12_open 38 = .ok (.istore 5, 2) := by decide +kernel
theorem dX12_open_40 : decode cX12_open 40 = .ok (.iconst 0, 1) := by decide +kernel
theorem dX12_open_41 : decode cX12_open 41 = .ok (.istore 6, 2) := by decide +kernel
theorem dX12_open_43 : decode cX12_open 43 = .ok (.iload 6, 2) := by decide +kernel
theorem dX12_open_45 : decode cX12_open 45 = .ok (.aload_n 0, 1) := by decide +kernel
theorem dX12_open_46 : decode cX12_open 46 = .ok (.getfield 13, 3) := by decide +kernel
theorem dX12_open_49 : decode cX12_open 49 = .ok (.iconst 0, 1) := by decide +kernel
theorem dX12_open_50 : decode cX12_open 50 = .ok (.iaload, 1) := by decide +kernel
theorem dX12_open_51 : decode cX12_open 51 = .ok (.if_icmp .ge 49, 3) := by decide +kernel
theorem dX12_open_54 : decode cX12_open 54 = .ok (.aload_n 0, 1) := by decide +kernel
theorem dX12_open_55 : decode cX12_open 55 = .ok (.iload_n 1, 1) := by decide +kernel
theorem dX12_open_56 : decode cX12_open 56 = .ok (.aload_n 0, 1) := by decide +kernel
theorem dX12_open_57 : decode cX12_open 57 = .ok (.getfield 19, 3) := by decide +kernel
theorem dX12_open_60 : decode cX12_open 60 = .ok (.iconst 1, 1) := by decide +kernel
theorem dX12_open_61 : decode cX12_open 61 = .ok (.iaload, 1) := by decide +kernel
theorem dX12_open_62 : decode cX12_open 62 = .ok (.invokevirtual 156, 3) := by decide +kernel
theorem dX12_open_65 : decode cX12_open 65 = .ok (.iload 5, 2) := by decide +kernel
theorem dX12_open_67 : decode cX12_open 67 = .ok (.ifCond .ne 20, 3) := by decide +kernel
theorem dX12_open_70 : decode cX12_open 70 = .ok (.aload_n 0, 1) := by decide +kernel
theorem dX12_open_71 : decode cX12_open 71 = .ok (.iload_n 1, 1) := by decide +kernel
theorem dX12_open_72 : decode cX12_open 72 = .ok (.aload_n 0, 1) := by decide +kernel
theorem dX12_open_73 : decode cX12_open 73 = .ok (.getfield 56, 3) := by decide +kernel
theorem dX12_open_76 : decode cX12_open 76 = .ok (.iload 4, 2) := by decide +kernel
theorem dX12_open_78 : decode cX12_open 78 = .ok (.iaload, 1) := by decide +kernel
theorem dX12_open_79 : decode cX12_open 79 = .ok (.iload 6, 2) := by decide +kernel
theorem dX12_open_81 : decode cX12_open 81 = .ok (.invokevirtual 165, 3) := by decide +kernel
theorem dX12_open_84 : decode cX12_open 84 = .ok (.ifCond .eq 7, 3) := by decide +kernel
theorem dX12_open_87 : decode cX12_open 87 = .ok (.iconst 1, 1) := by decide +kernel
theorem dX12_open_88 : decode cX12_open 88 = .ok (.goto 4, 3) := by decide +kernel
theorem dX12_open_91 : decode cX12_open 91 = .ok (.iconst 0, 1) := by decide +kernel
theorem dX12_open_92 : decode cX12_open 92 = .ok (.istore 5, 2) := by decide +kernel
theorem dX12_open_94 : decode cX12_open 94 = .ok (.iinc 6 1, 3) := by decide +kernel
theorem dX12_open_97 : decode cX12_open 97 = .ok (.goto (-54), 3) := by decide +kernel
theorem dX12_open_100 : decode cX12_open 100 = .ok (.iload_n 2, 1) := by decide +kernel
theorem dX12_open_101 : decode cX12_open 101 = .ok (.iload 5, 2) := by decide +kernel
theorem dX12_open_103 : decode cX12_open 103 = .ok (.ifCond .eq 7, 3) := by decide +kernel
theorem dX12_open_106 : decode cX12_open 106 = .ok (.iconst 1, 1) := by decide +kernel
theorem dX12_open_107 : decode cX12_open 107 = .ok (.goto 4, 3) := by decide +kernel
theorem dX12_open_110 : decode cX12_open 110 = .ok (.iconst 0, 1) := by decide +kernel
theorem dX12_open_111 : decode cX12_open 111 = .ok (.iadd, 1) := by decide +kernel
theorem dX12_open_112 : decode cX12_open 112 = .ok (.istore_n 2, 1) := by decide +kernel
theorem dX12_open_113 : decode cX12_open 113 = .ok (.iinc 4 1, 3) := by decide +kernel
theorem dX12_open_116 : decode cX12_open 116 = .ok (.goto (-85), 3) := by decide +kernel
theorem dX12_open_119 : decode cX12_open 119 = .ok (.iload_n 2, 1) := by decide +kernel
theorem dX12_open_120 : decode cX12_open 120 = .ok (.ireturn, 1) := by decide +kernel
set_option maxRecDepth 20000 in
theorem ggX12_add_X12_isSort : GoodIn wsX12_add wsX12_isSort := goodIn_r _ [7, 8, 9, 10, 6, 11, 12, 13, 14, 15, 16, 17, 18, 19, 20, 21, 22, 23, 24, 25, 26, 27, 28, 29, 30, 31, 32, 33, 34, 35] (by decide +kernel) (by decide +kernel)
set_option maxRecDepth 20000 in
theorem gX12_add_X12_isSort : GoodIn wsX12_add (wsV RX12 121 RX12 yX12_isSort wsX12_isSort) := goodIn_app (goodIn_of _ (by decide +kernel)) ggX12_add_X12_isSort
theorem dX12_add_0 : decode cX12_add 0 = .ok (.aload_n 0, 1) := by decide +kernel
theorem dX12_add_1 : decode cX12_add 1 = .ok (.iload_n 1, 1) := by decide +kernel
theorem dX12_add_2 : decode cX12_add 2 = .ok (.invokevirtual 121, 3) := by decide +kernel
theorem dX12_add_5 : decode cX12_add 5 = .ok (.ifCond .ne 5, 3) := by decide +kernel
theorem dX12_add_8 : decode cX12_add 8 = .ok (.iconst (-1), 1) := by decide +kernel
theorem dX12_add_9 : decode cX12_add 9 = .ok (.ireturn, 1) := by decide +kernel
theorem dX12_add_10 : decode cX12_add 10 = .ok (.aload_n 0, 1) := by decide +kernel
theorem dX12_add_11 : decode cX12_add 11 = .ok (.getfield 112, 3) := by decide +kernel
theorem dX12_add_14 : decode cX12_add 14 = .ok (.bipush 8, 2) := by decide +kernel
theorem dX12_add_16 : decode cX12_add 16 = .ok (.if_icmp .ne 6, 3) := by decide +kernel
theorem dX12_add_19 : decode cX12_add 19 = .ok (.bipush (-3), 2) := by decide +kernel
theorem dX12_add_21 : decode cX12_add 21 = .ok (.ireturn, 1) := by decide +kernel
theorem dX12_add_22 : decode cX12_add 22 = .ok (.aload_n 0, 1) := by decide +kernel
theorem dX12_add_23 : decode cX12_add 23 = .ok (.getfield 28, 3) := by decide +kernel
theorem dX12_add_26 : decode cX12_add 26 = .ok (.aload_n 0, 1) := by decide +kernel
theorem dX12_add_27 : decode cX12_add 27 = .ok (.getfield 112, 3) := by decide +kernel
theorem dX12_add_30 : decode cX12_add 30 = .ok (.iload_n 1, 1) := by decide +kernel
theorem dX12_add_31 : decode cX12_add 31 = .ok (.iastore, 1) := by decide +kernel
theorem dX12_add_32 : decode cX12_add 32 = .ok (.aload_n 0, 1) := by decide +kernel
theorem dX12_add_33 : decode cX12_add 33 = .ok (.dup, 1) := by decide +kernel
theorem dX12_add_34 : decode cX12_add 34 = .ok (.getfield 112, 3) := by decide +kernel
theorem dX12_add_37 : decode cX12_add 37 = .ok (.iconst 1, 1) := by decide +kernel
theorem dX12_add_38 : decode cX12_add 38 = .ok (.iadd, 1) := by decide +kernel
theorem dX12_add_39 : decode cX12_add 39 = .ok (.putfield 112, 3) := by decide +kernel
theorem dX12_add_42 : decode cX12_add 42 = .ok (.aload_n 0, 1) := by decide +kernel
theorem dX12_add_43 : decode cX12_add 43 = .ok (.getfield 112, 3) := by decide +kernel
theorem dX12_add_46 : decode cX12_add 46 = .ok (.ireturn, 1) := by decide +kernel
theorem dX12_noRow_0 : decode cX12_noRow 0 = .ok (.aload_n 0, 1) := by decide +kernel
theorem dX12_noRow_1 : decode cX12_noRow 1 = .ok (.getfield 112, 3) := by decide +kernel
theorem dX12_noRow_4 : decode cX12_noRow 4 = .ok (.istore_n 1, 1) := by decide +kernel
theorem dX12_noRow_5 : decode cX12_noRow 5 = .ok (.aload_n 0, 1) := by decide +kernel
theorem dX12_noRow_6 : decode cX12_noRow 6 = .ok (.iconst 0, 1) := by decide +kernel
theorem dX12_noRow_7 : decode cX12_noRow 7 = .ok (.putfield 112, 3) := by decide +kernel
theorem dX12_noRow_10 : decode cX12_noRow 10 = .ok (.iload_n 1, 1) := by decide +kernel
theorem dX12_noRow_11 : decode cX12_noRow 11 = .ok (.ireturn, 1) := by decide +kernel
set_option maxRecDepth 20000 in
theorem ggX12_takes_X12_isPlace : GoodIn wsX12_takes wsX12_isPlace := goodIn_r _ [11, 12, 13, 14, 10, 15, 46, 47, 48, 49, 50, 51, 52, 53, 54, 55, 56, 57, 58, 59, 60, 61, 62, 63, 64, 65, 66, 67, 68, 69] (by decide +kernel) (by decide +kernel)
set_option maxRecDepth 20000 in
theorem gX12_takes_X12_isPlace : GoodIn wsX12_takes (wsV RX12 118 RX12 yX12_isPlace wsX12_isPlace) := goodIn_app (goodIn_of _ (by decide +kernel)) ggX12_takes_X12_isPlace
set_option maxRecDepth 20000 in
theorem ggX12_takes_X12_starts : GoodIn wsX12_takes wsX12_starts := goodIn_r _ [19, 3, 1, 20, 21, 22, 10, 23, 24, 25, 26, 46, 47, 48, 49, 50, 51, 52, 53, 54, 55, 56, 57, 58, 59, 60, 61, 62, 63, 64, 65, 66, 67, 68, 69] (by decide +kernel) (by decide +kernel)
set_option maxRecDepth 20000 in
theorem gX12_takes_X12_starts : GoodIn wsX12_takes (wsV RX12 146 RX12 yX12_starts wsX12_starts) := goodIn_app (goodIn_of _ (by decide +kernel)) ggX12_takes_X12_starts
set_option maxRecDepth 20000 in
theorem ggX12_takes_X12_tries : GoodIn wsX12_takes wsX12_tries := goodIn_r _ [23, 24, 3, 25, 26, 46, 47, 48, 49, 50, 51, 52, 53, 54, 55, 56, 57, 58, 59, 60, 61, 62, 63, 64, 65, 66, 67, 68, 69] (by decide +kernel) (by decide +kernel)
set_option maxRecDepth 20000 in
theorem gX12_takes_X12_tries : GoodIn wsX12_takes (wsV RX12 130 RX12 yX12_tries wsX12_tries) := goodIn_app (goodIn_of _ (by decide +kernel)) ggX12_takes_X12_tries
set_option maxRecDepth 20000 in
theorem ggX12_takes_X12_plays : GoodIn wsX12_takes wsX12_plays := goodIn_r _ [30, 6, 3, 31, 32, 33, 26, 12, 24, 34, 35, 36, 10, 37, 38, 39, 40, 41, 5, 42, 43, 44, 45, 25, 46, 47, 48, 49, 50, 51, 52, 53, 54, 55, 56, 57, 58, 59, 60, 61, 62, 63, 64, 65, 66, 67, 68, 69] (by decide +kernel) (by decide +kernel)
set_option maxRecDepth 20000 in
theorem gX12_takes_X12_plays : GoodIn wsX12_takes (wsV RX12 149 RX12 yX12_plays wsX12_plays) := goodIn_app (goodIn_of _ (by decide +kernel)) ggX12_takes_X12_plays
theorem dX12_takes_0 : decode cX12_takes 0 = .ok (.aload_n 0, 1) := by decide +kernel
theorem dX12_takes_1 : decode cX12_takes 1 = .ok (.iload_n 1, 1) := by decide +kernel
theorem dX12_takes_2 : decode cX12_takes 2 = .ok (.invokevirtual 118, 3) := by decide +kernel
theorem dX12_takes_5 : decode cX12_takes 5 = .ok (.ifCond .ne 5, 3) := by decide +kernel
theorem dX12_takes_8 : decode cX12_takes 8 = .ok (.iconst (-1), 1) := by decide +kernel
theorem dX12_takes_9 : decode cX12_takes 9 = .ok (.ireturn, 1) := by decide +kernel
theorem dX12_takes_10 : decode cX12_takes 10 = .ok (.aload_n 0, 1) := by decide +kernel
theorem dX12_takes_11 : decode cX12_takes 11 = .ok (.invokevirtual 146, 3) := by decide +kernel
theorem dX12_takes_14 : decode cX12_takes 14 = .ok (.aload_n 0, 1) := by decide +kernel
theorem dX12_takes_15 : decode cX12_takes 15 = .ok (.getfield 19, 3) := by decide +kernel
theorem dX12_takes_18 : decode cX12_takes 18 = .ok (.iconst 1, 1) := by decide +kernel
theorem dX12_takes_19 : decode cX12_takes 19 = .ok (.iaload, 1) := by decide +kernel
theorem dX12_takes_20 : decode cX12_takes 20 = .ok (.iconst 1, 1) := by decide +kernel
theorem dX12_takes_21 : decode cX12_takes 21 = .ok (.isub, 1) := by decide +kernel
theorem dX12_takes_22 : decode cX12_takes 22 = .ok (.istore_n 2, 1) := by decide +kernel
theorem dX12_takes_23 : decode cX12_takes 23 = .ok (.iconst 0, 1) := by decide +kernel
theorem dX12_takes_24 : decode cX12_takes 24 = .ok (.istore_n 3, 1) := by decide +kernel
theorem dX12_takes_25 : decode cX12_takes 25 = .ok (.iload_n 3, 1) := by decide +kernel
theorem dX12_takes_26 : decode cX12_takes 26 = .ok (.aload_n 0, 1) := by decide +kernel
theorem dX12_takes_27 : decode cX12_takes 27 = .ok (.getfield 112, 3) := by decide +kernel
theorem dX12_takes_30 : decode cX12_takes 30 = .ok (.if_icmp .ge 111, 3) := by decide +kernel
theorem dX12_takes_33 : decode cX12_takes 33 = .ok (.iconst 0, 1) := by decide +kernel
theorem dX12_takes_34 : decode cX12_takes 34 = .ok (.istore 4, 2) := by decide +kernel
theorem dX12_takes_36 : decode cX12_takes 36 = .ok (.aload_n 0, 1) := by decide +kernel
theorem dX12_takes_37 : decode cX12_takes 37 = .ok (.getfield 127, 3) := by decide +kernel
theorem dX12_takes_40 : decode cX12_takes 40 = .ok (.istore 5, 2) := by decide +kernel
theorem dX12_takes_42 : decode cX12_takes 42 = .ok (.iload 4, 2) := by decide +kernel
theorem dX12_takes_44 : decode cX12_takes 44 = .ok (.ifCond .ne 91, 3) := by decide +kernel
theorem dX12_takes_47 : decode cX12_takes 47 = .ok (.iinc 2 1, 3) := by decide +kernel
theorem dX12_takes_50 : decode cX12_takes 50 = .ok (.iload_n 2, 1) := by decide +kernel
theorem dX12_takes_51 : decode cX12_takes 51 = .ok (.aload_n 0, 1) := by decide +kernel
theorem dX12_takes_52 : decode cX12_takes 52 = .ok (.getfield 19, 3) := by decide +kernel
theorem dX12_takes_55 : decode cX12_takes 55 = .ok (.iconst 1, 1) := by decide +kernel
theorem dX12_takes_56 : decode cX12_takes 56 = .ok (.iaload, 1) := by decide +kernel
theorem dX12_takes_57 : decode cX12_takes 57 = .ok (.sipush 600, 3) := by decide +kernel
theorem dX12_takes_60 : decode cX12_takes 60 = .ok (.iadd, 1) := by decide +kernel
theorem dX12_takes_61 : decode cX12_takes 61 = .ok (.if_icmp .le 6, 3) := by decide +kernel
theorem dX12_takes_64 : decode cX12_takes 64 = .ok (.bipush (-4), 2) := by decide +kernel
theorem dX12_takes_66 : decode cX12_takes 66 = .ok (.ireturn, 1) := by decide +kernel
theorem dX12_takes_67 : decode cX12_takes 67 = .ok (.aload_n 0, 1) := by decide +kernel
theorem dX12_takes_68 : decode cX12_takes 68 = .ok (.iload 5, 2) := by decide +kernel
theorem dX12_takes_70 : decode cX12_takes 70 = .ok (.putfield 127, 3) := by decide +kernel
theorem dX12_takes_73 : decode cX12_takes 73 = .ok (.aload_n 0, 1) := by decide +kernel
theorem dX12_takes_74 : decode cX12_takes 74 = .ok (.iload_n 1, 1) := by decide +kernel
theorem dX12_takes_75 : decode cX12_takes 75 = .ok (.aload_n 0, 1) := by decide +kernel
theorem dX12_takes_76 : decode cX12_takes 76 = .ok (.getfield 28, 3) := by decide +kernel
theorem dX12_takes_79 : decode cX12_takes 79 = .ok (.iload_n 3, 1) := by decide +kernel
theorem dX12_takes_80 : decode cX12_takes 80 = .ok (.iaload, 1) := by decide +kernel
theorem dX12_takes_81 : decode cX12_takes 81 = .ok (.iload_n 2, 1) := by decide +kernel
theorem dX12_takes_82 : decode cX12_takes 82 = .ok (.invokevirtual 130, 3) := by decide +kernel
theorem dX12_takes_85 : decode cX12_takes 85 = .ok (.aload_n 0, 1) := by decide +kernel
theorem dX12_takes_86 : decode cX12_takes 86 = .ok (.iload_n 1, 1) := by decide +kernel
theorem dX12_takes_87 : decode cX12_takes 87 = .ok (.iload_n 2, 1) := by decide +kernel
theorem dX12_takes_88 : decode cX12_takes 88 = .ok (.invokevirtual 149, 3) := by decide +kernel
theorem dX12_takes_91 : decode cX12_takes 91 = .ok (.aload_n 0, 1) := by decide +kernel
theorem dX12_takes_92 : decode cX12_takes 92 = .ok (.getfield 56, 3) := by decide +kernel
theorem dX12_takes_95 : decode cX12_takes 95 = .ok (.aload_n 0, 1) := by decide +kernel
theorem dX12_takes_96 : decode cX12_takes 96 = .ok (.getfield 134, 3) := by decide +kernel
theorem dX12_takes_99 : decode cX12_takes 99 = .ok (.ifCond .le 12, 3) := by decide +kernel
theorem dX12_takes_102 : decode cX12_takes 102 = .ok (.aload_n 0, 1) := by decide +kernel
theorem dX12_takes_103 : decode cX12_takes 103 = .ok (.getfield 134, 3) := by decide +kernel
theorem dX12_takes_106 : decode cX12_takes 106 = .ok (.iconst 1, 1) := by decide +kernel
theorem dX12_takes_107 : decode cX12_takes 107 = .ok (.isub, 1) := by decide +kernel
theorem dX12_takes_108 : decode cX12_takes 108 = .ok (.goto 4, 3) := by decide +kernel
theorem dX12_takes_111 : decode cX12_takes 111 = .ok (.iconst 0, 1) := by decide +kernel
theorem dX12_takes_112 : decode cX12_takes 112 = .ok (.iaload, 1) := by decide +kernel
theorem dX12_takes_113 : decode cX12_takes 113 = .ok (.iload 5, 2) := by decide +kernel
theorem dX12_takes_115 : decode cX12_takes 115 = .ok (.if_icmp .ne 14, 3) := by decide +kernel
theorem dX12_takes_118 : decode cX12_takes 118 = .ok (.aload_n 0, 1) := by decide +kernel
theorem dX12_takes_119 : decode cX12_takes 119 = .ok (.getfield 134, 3) := by decide +kernel
theorem dX12_takes_122 : decode cX12_takes 122 = .ok (.ifCond .le 7, 3) := by decide +kernel
theorem dX12_takes_125 : decode cX12_takes 125 = .ok (.iconst 1, 1) := by decide +kernel
theorem dX12_takes_126 : decode cX12_takes 126 = .ok (.goto 4, 3) := by decide +kernel
theorem dX12_takes_129 : decode cX12_takes 129 = .ok (.iconst 0, 1) := by decide +kernel
theorem dX12_takes_130 : decode cX12_takes 130 = .ok (.istore 4, 2) := by decide +kernel
theorem dX12_takes_132 : decode cX12_takes 132 = .ok (.goto (-90), 3) := by decide +kernel
theorem dX12_takes_135 : decode cX12_takes 135 = .ok (.iinc 3 1, 3) := by decide +kernel
theorem dX12_takes_138 : decode cX12_takes 138 = .ok (.goto (-113), 3) := by decide +kernel
theorem dX12_takes_141 : decode cX12_takes 141 = .ok (.aload_n 0, 1) := by decide +kernel
theorem dX12_takes_142 : decode cX12_takes 142 = .ok (.getfield 112, 3) := by decide +kernel
theorem dX12_takes_145 : decode cX12_takes 145 = .ok (.ifCond .ne 7, 3) := by decide +kernel
theorem dX12_takes_148 : decode cX12_takes 148 = .ok (.iconst 0, 1) := by decide +kernel
theorem dX12_takes_149 : decode cX12_takes 149 = .ok (.goto 11, 3) := by decide +kernel
theorem dX12_takes_152 : decode cX12_takes 152 = .ok (.iload_n 2, 1) := by decide +kernel
theorem dX12_takes_153 : decode cX12_takes 153 = .ok (.aload_n 0, 1) := by decide +kernel
theorem dX12_takes_154 : decode cX12_takes 154 = .ok (.getfield 19, 3) := by decide +kernel
theorem dX12_takes_157 : decode cX12_takes 157 = .ok (.iconst 1, 1) := by decide +kernel
theorem dX12_takes_158 : decode cX12_takes 158 = .ok (.iaload, 1) := by decide +kernel
theorem dX12_takes_159 : decode cX12_takes 159 = .ok (.isub, 1) := by decide +kernel
theorem dX12_takes_160 : decode cX12_takes 160 = .ok (.ireturn, 1) := by decide +kernel
theorem dX12_isRow_0 : decode cX12_isRow 0 = .ok (.aload_n 0, 1) := by decide +kernel
theorem dX12_isRow_1 : decode cX12_isRow 1 = .ok (.getfield 134, 3) := by decide +kernel
theorem dX12_isRow_4 : decode cX12_isRow 4 = .ok (.aload_n 0, 1) := by decide +kernel
theorem dX12_isRow_5 : decode cX12_isRow 5 = .ok (.getfield 112, 3) := by decide +kernel
theorem dX12_isRow_8 : decode cX12_isRow 8 = .ok (.if_icmp .ne 7, 3) := by decide +kernel
theorem dX12_isRow_11 : decode cX12_isRow 11 = .ok (.iconst 1, 1) := by decide +kernel
theorem dX12_isRow_12 : decode cX12_isRow 12 = .ok (.goto 4, 3) := by decide +kernel
theorem dX12_isRow_15 : decode cX12_isRow 15 = .ok (.iconst 0, 1) := by decide +kernel
theorem dX12_isRow_16 : decode cX12_isRow 16 = .ok (.istore_n 1, 1) := by decide +kernel
theorem dX12_isRow_17 : decode cX12_isRow 17 = .ok (.iconst 0, 1) := by decide +kernel
theorem dX12_isRow_18 : decode cX12_isRow 18 = .ok (.istore_n 2, 1) := by decide +kernel
theorem dX12_isRow_19 : decode cX12_isRow 19 = .ok (.iload_n 2, 1) := by decide +kernel
theorem dX12_isRow_20 : decode cX12_isRow 20 = .ok (.aload_n 0, 1) := by decide +kernel
theorem dX12_isRow_21 : decode cX12_isRow 21 = .ok (.getfield 112, 3) := by decide +kernel
theorem dX12_isRow_24 : decode cX12_isRow 24 = .ok (.if_icmp .ge 39, 3) := by decide +kernel
theorem dX12_isRow_27 : decode cX12_isRow 27 = .ok (.iload_n 1, 1) := by decide +kernel
theorem dX12_isRow_28 : decode cX12_isRow 28 = .ok (.ifCond .eq 35, 3) := by decide +kernel
theorem dX12_isRow_31 : decode cX12_isRow 31 = .ok (.aload_n 0, 1) := by decide +kernel
theorem dX12_isRow_32 : decode cX12_isRow 32 = .ok (.getfield 40, 3) := by decide +kernel
theorem dX12_isRow_35 : decode cX12_isRow 35 = .ok (.aload_n 0, 1) := by decide +kernel
theorem dX12_isRow_36 : decode cX12_isRow 36 = .ok (.getfield 56, 3) := by decide +kernel
theorem dX12_isRow_39 : decode cX12_isRow 39 = .ok (.iload_n 2, 1) := by decide +kernel
theorem dX12_isRow_40 : decode cX12_isRow 40 = .ok (.iaload, 1) := by decide +kernel
theorem dX12_isRow_41 : decode cX12_isRow 41 = .ok (.iaload, 1) := by decide +kernel
theorem dX12_isRow_42 : decode cX12_isRow 42 = .ok (.aload_n 0, 1) := by decide +kernel
theorem dX12_isRow_43 : decode cX12_isRow 43 = .ok (.getfield 28, 3) := by decide +kernel
theorem dX12_isRow_46 : decode cX12_isRow 46 = .ok (.iload_n 2, 1) := by decide +kernel
theorem dX12_isRow_47 : decode cX12_isRow 47 = .ok (.iaload, 1) := by decide +kernel
theorem dX12_isRow_48 : decode cX12_isRow 48 = .ok (.if_icmp .ne 7, 3) := by decide +kernel
theorem dX12_isRow_51 : decode cX12_isRow 51 = .ok (.iconst 1, 1) := by decide +kernel
theorem dX12_isRow_52 : decode cX12_isRow 52 = .ok (.goto 4, 3) := by decide +kernel
theorem dX12_isRow_55 : decode cX12_isRow 55 = .ok (.iconst 0, 1) := by decide +kernel
theorem dX12_isRow_56 : decode cX12_isRow 56 = .ok (.istore_n 1, 1) := by decide +kernel
theorem dX12_isRow_57 : decode cX12_isRow 57 = .ok (.iinc 2 1, 3) := by decide +kernel
theorem dX12_isRow_60 : decode cX12_isRow 60 = .ok (.goto (-41), 3) := by decide +kernel
theorem dX12_isRow_63 : decode cX12_isRow 63 = .ok (.iload_n 1, 1) := by decide +kernel
theorem dX12_isRow_64 : decode cX12_isRow 64 = .ok (.ireturn, 1) := by decide +kernel
set_option maxRecDepth 20000 in
theorem ggX12_taps_X12_starts : GoodIn wsX12_taps wsX12_starts := goodIn_r _ [7, 8, 2, 9, 10, 11, 6, 12, 13, 14, 15, 37, 38, 39, 40, 41, 42, 43, 44, 45, 46, 47, 48, 49, 50, 51, 52, 53, 54, 55, 56, 57, 58, 59, 60] (by decide +kernel) (by decide +kernel)
set_option maxRecDepth 20000 in
theorem gX12_taps_X12_starts : GoodIn wsX12_taps (wsV RX12 146 RX12 yX12_starts wsX12_starts) := goodIn_app (goodIn_of _ (by decide +kernel)) ggX12_taps_X12_starts
set_option maxRecDepth 20000 in
theorem ggX12_taps_X12_tries : GoodIn wsX12_taps wsX12_tries := goodIn_r _ [12, 13, 8, 14, 15, 37, 38, 39, 40, 41, 42, 43, 44, 45, 46, 47, 48, 49, 50, 51, 52, 53, 54, 55, 56, 57, 58, 59, 60] (by decide +kernel) (by decide +kernel)
set_option maxRecDepth 20000 in
theorem gX12_taps_X12_tries : GoodIn wsX12_taps (wsV RX12 130 RX12 yX12_tries wsX12_tries) := goodIn_app (goodIn_of _ (by decide +kernel)) ggX12_taps_X12_tries
set_option maxRecDepth 20000 in
theorem ggX12_taps_X12_plays : GoodIn wsX12_taps wsX12_plays := goodIn_r _ [19, 20, 8, 21, 22, 23, 15, 1, 13, 24, 25, 26, 6, 27, 28, 29, 30, 31, 32, 33, 34, 35, 36, 14, 37, 38, 39, 40, 41, 42, 43, 44, 45, 46, 47, 48, 49, 50, 51, 52, 53, 54, 55, 56, 57, 58, 59, 60] (by decide +kernel) (by decide +kernel)
set_option maxRecDepth 20000 in
theorem gX12_taps_X12_plays : GoodIn wsX12_taps (wsV RX12 149 RX12 yX12_plays wsX12_plays) := goodIn_app (goodIn_of _ (by decide +kernel)) ggX12_taps_X12_plays
theorem dX12_taps_0 : decode cX12_taps 0 = .ok (.aload_n 0, 1) := by decide +kernel
theorem dX12_taps_1 : decode cX12_taps 1 = .ok (.invokevirtual 146, 3) := by decide +kernel
theorem dX12_taps_4 : decode cX12_taps 4 = .ok (.iload_n 3, 1) := by decide +kernel
theorem dX12_taps_5 : decode cX12_taps 5 = .ok (.istore 4, 2) := by decide +kernel
theorem dX12_taps_7 : decode cX12_taps 7 = .ok (.iconst 0, 1) := by decide +kernel
theorem dX12_taps_8 : decode cX12_taps 8 = .ok (.istore 5, 2) := by decide +kernel
theorem dX12_taps_10 : decode cX12_taps 10 = .ok (.iload 5, 2) := by decide +kernel
theorem dX12_taps_12 : decode cX12_taps 12 = .ok (.iload_n 2, 1) := by decide +kernel
theorem dX12_taps_13 : decode cX12_taps 13 = .ok (.if_icmp .ge 43, 3) := by decide +kernel
theorem dX12_taps_16 : decode cX12_taps 16 = .ok (.aload_n 0, 1) := by decide +kernel
theorem dX12_taps_17 : decode cX12_taps 17 = .ok (.iload_n 1, 1) := by decide +kernel
theorem dX12_taps_18 : decode cX12_taps 18 = .ok (.iload 4, 2) := by decide +kernel
theorem dX12_taps_20 : decode cX12_taps 20 = .ok (.aload_n 0, 1) := by decide +kernel
theorem dX12_taps_21 : decode cX12_taps 21 = .ok (.getfield 13, 3) := by decide +kernel
theorem dX12_taps_24 : decode cX12_taps 24 = .ok (.iconst 3, 1) := by decide +kernel
theorem dX12_taps_25 : decode cX12_taps 25 = .ok (.iaload, 1) := by decide +kernel
theorem dX12_taps_26 : decode cX12_taps 26 = .ok (.irem, 1) := by decide +kernel
theorem dX12_taps_27 : decode cX12_taps 27 = .ok (.aload_n 0, 1) := by decide +kernel
theorem dX12_taps_28 : decode cX12_taps 28 = .ok (.getfield 19, 3) := by decide +kernel
theorem dX12_taps_31 : decode cX12_taps 31 = .ok (.iconst 1, 1) := by decide +kernel
theorem dX12_taps_32 : decode cX12_taps 32 = .ok (.iaload, 1) := by decide +kernel
theorem dX12_taps_33 : decode cX12_taps 33 = .ok (.iload 5, 2) := by decide +kernel
theorem dX12_taps_35 : decode cX12_taps 35 = .ok (.iadd, 1) := by decide +kernel
theorem dX12_taps_36 : decode cX12_taps 36 = .ok (.invokevirtual 130, 3) := by decide +kernel
theorem dX12_taps_39 : decode cX12_taps 39 = .ok (.iload 4, 2) := by decide +kernel
theorem dX12_taps_41 : decode cX12_taps 41 = .ok (.aload_n 0, 1) := by decide +kernel
theorem dX12_taps_42 : decode cX12_taps 42 = .ok (.getfield 13, 3) := by decide +kernel
theorem dX12_taps_45 : decode cX12_taps 45 = .ok (.iconst 3, 1) := by decide +kernel
theorem dX12_taps_46 : decode cX12_taps 46 = .ok (.iaload, 1) := by decide +kernel
theorem dX12_taps_47 : decode cX12_taps 47 = .ok (.idiv, 1) := by decide +kernel
theorem dX12_taps_48 : decode cX12_taps 48 = .ok (.istore 4, 2) := by decide +kernel
theorem dX12_taps_50 : decode cX12_taps 50 = .ok (.iinc 5 1, 3) := by decide +kernel
theorem dX12_taps_53 : decode cX12_taps 53 = .ok (.goto (-43), 3) := by decide +kernel
theorem dX12_taps_56 : decode cX12_taps 56 = .ok (.aload_n 0, 1) := by decide +kernel
theorem dX12_taps_57 : decode cX12_taps 57 = .ok (.iload_n 1, 1) := by decide +kernel
theorem dX12_taps_58 : decode cX12_taps 58 = .ok (.aload_n 0, 1) := by decide +kernel
theorem dX12_taps_59 : decode cX12_taps 59 = .ok (.getfield 19, 3) := by decide +kernel
theorem dX12_taps_62 : decode cX12_taps 62 = .ok (.iconst 1, 1) := by decide +kernel
theorem dX12_taps_63 : decode cX12_taps 63 = .ok (.iaload, 1) := by decide +kernel
theorem dX12_taps_64 : decode cX12_taps 64 = .ok (.iload_n 2, 1) := by decide +kernel
theorem dX12_taps_65 : decode cX12_taps 65 = .ok (.ifCond .le 9, 3) := by decide +kernel
theorem dX12_taps_68 : decode cX12_taps 68 = .ok (.iload_n 2, 1) := by decide +kernel
theorem dX12_taps_69 : decode cX12_taps 69 = .ok (.iconst 1, 1) := by decide +kernel
theorem dX12_taps_70 : decode cX12_taps 70 = .ok (.isub, 1) := by decide +kernel
theorem dX12_taps_71 : decode cX12_taps 71 = .ok (.goto 4, 3) := by decide +kernel
theorem dX12_taps_74 : decode cX12_taps 74 = .ok (.iconst 0, 1) := by decide +kernel
theorem dX12_taps_75 : decode cX12_taps 75 = .ok (.iadd, 1) := by decide +kernel
theorem dX12_taps_76 : decode cX12_taps 76 = .ok (.invokevirtual 149, 3) := by decide +kernel
theorem dX12_taps_79 : decode cX12_taps 79 = .ok (.return_, 1) := by decide +kernel
theorem dX12_codes_0 : decode cX12_codes 0 = .ok (.iconst 1, 1) := by decide +kernel
theorem dX12_codes_1 : decode cX12_codes 1 = .ok (.istore_n 2, 1) := by decide +kernel
theorem dX12_codes_2 : decode cX12_codes 2 = .ok (.iconst 0, 1) := by decide +kernel
theorem dX12_codes_3 : decode cX12_codes 3 = .ok (.istore_n 3, 1) := by decide +kernel
theorem dX12_codes_4 : decode cX12_codes 4 = .ok (.iload_n 3, 1) := by decide +kernel
theorem dX12_codes_5 : decode cX12_codes 5 = .ok (.iload_n 1, 1) := by decide +kernel
theorem dX12_codes_6 : decode cX12_codes 6 = .ok (.if_icmp .ge 18, 3) := by decide +kernel
theorem dX12_codes_9 : decode cX12_codes 9 = .ok (.iload_n 2, 1) := by decide +kernel
theorem dX12_codes_10 : decode cX12_codes 10 = .ok (.aload_n 0, 1) := by decide +kernel
theorem dX12_codes_11 : decode cX12_codes 11 = .ok (.getfield 13, 3) := by decide +kernel
theorem dX12_codes_14 : decode cX12_codes 14 = .ok (.iconst 3, 1) := by decide +kernel
theorem dX12_codes_15 : decode cX12_codes 15 = .ok (.iaload, 1) := by decide +kernel
theorem dX12_codes_16 : decode cX12_codes 16 = .ok (.imul, 1) := by decide +kernel
theorem dX12_codes_17 : decode cX12_codes 17 = .ok (.istore_n 2, 1) := by decide +kernel
theorem dX12_codes_18 : decode cX12_codes 18 = .ok (.iinc 3 1, 3) := by decide +kernel
theorem dX12_codes_21 : decode cX12_codes 21 = .ok (.goto (-17), 3) := by decide +kernel
theorem dX12_codes_24 : decode cX12_codes 24 = .ok (.iload_n 2, 1) := by decide +kernel
theorem dX12_codes_25 : decode cX12_codes 25 = .ok (.ireturn, 1) := by decide +kernel
set_option maxRecDepth 20000 in
theorem ggX12_mends_X12_isPlace : GoodIn wsX12_mends wsX12_isPlace := goodIn_r _ [5, 6, 7, 8, 4, 9, 58, 59, 60, 61, 62, 63, 64, 65, 66, 67, 68, 69, 70, 71, 72, 73, 74, 75, 76, 77, 78, 79, 80, 81] (by decide +kernel) (by decide +kernel)
set_option maxRecDepth 20000 in
theorem gX12_mends_X12_isPlace : GoodIn wsX12_mends (wsV RX12 118 RX12 yX12_isPlace wsX12_isPlace) := goodIn_app (goodIn_of _ (by decide +kernel)) ggX12_mends_X12_isPlace
set_option maxRecDepth 20000 in
theorem ggX12_mends_X12_codes : GoodIn wsX12_mends wsX12_codes := goodIn_r _ [13, 6, 58, 59, 60, 61, 62, 63, 64, 65, 66, 67, 68, 69, 70, 71, 72, 73, 74, 75, 76, 77, 78, 79, 80, 81] (by decide +kernel) (by decide +kernel)
set_option maxRecDepth 20000 in
theorem gX12_mends_X12_codes : GoodIn wsX12_mends (wsV RX12 168 RX12 yX12_codes wsX12_codes) := goodIn_app (goodIn_of _ (by decide +kernel)) ggX12_mends_X12_codes
set_option maxRecDepth 20000 in
theorem ggX12_mends_X12_taps : GoodIn wsX12_mends wsX12_taps := goodIn_r _ [17, 6, 18, 19, 20, 21, 4, 22, 23, 24, 25, 26, 27, 28, 29, 30, 31, 32, 33, 34, 35, 36, 37, 38, 39, 40, 41, 42, 43, 44, 45, 46, 47, 48, 49, 50, 51, 58, 59, 60, 61, 62, 63, 64, 65, 66, 67, 68, 69, 70, 71, 72, 73, 74, 75, 76, 77, 78, 79, 80, 81] (by decide +kernel) (by decide +kernel)
set_option maxRecDepth 20000 in
theorem gX12_mends_X12_taps : GoodIn wsX12_mends (wsV RX12 171 RX12 yX12_taps wsX12_taps) := goodIn_app (goodIn_of _ (by decide +kernel)) ggX12_mends_X12_taps
set_option maxRecDepth 20000 in
theorem ggX12_mends_X12_isRow : GoodIn wsX12_mends wsX12_isRow := goodIn_r _ [55, 35, 56, 29, 47, 57, 58, 59, 60, 61, 62, 63, 64, 65, 66, 67, 68, 69, 70, 71, 72, 73, 74, 75, 76, 77, 78, 79, 80, 81] (by decide +kernel) (by decide +kernel)
set_option maxRecDepth 20000 in
theorem gX12_mends_X12_isRow : GoodIn wsX12_mends (wsV RX12 174 RX12 yX12_isRow wsX12_isRow) := goodIn_app (goodIn_of _ (by decide +kernel)) ggX12_mends_X12_isRow
theorem dX12_mends_0 : decode cX12_mends 0 = .ok (.aload_n 0, 1) := by decide +kernel
theorem dX12_mends_1 : decode cX12_mends 1 = .ok (.iload_n 1, 1) := by decide +kernel
theorem dX12_mends_2 : decode cX12_mends 2 = .ok (.invokevirtual 118, 3) := by decide +kernel
theorem dX12_mends_5 : decode cX12_mends 5 = .ok (.ifCond .ne 5, 3) := by decide +kernel
theorem dX12_mends_8 : decode cX12_mends 8 = .ok (.iconst (-1), 1) := by decide +kernel
theorem dX12_mends_9 : decode cX12_mends 9 = .ok (.ireturn, 1) := by decide +kernel
theorem dX12_mends_10 : decode cX12_mends 10 = .ok (.iconst 0, 1) := by decide +kernel
theorem dX12_mends_11 : decode cX12_mends 11 = .ok (.istore_n 2, 1) := by decide +kernel
theorem dX12_mends_12 : decode cX12_mends 12 = .ok (.iload_n 2, 1) := by decide +kernel
theorem dX12_mends_13 : decode cX12_mends 13 = .ok (.iconst 5, 1) := by decide +kernel
theorem dX12_mends_14 : decode cX12_mends 14 = .ok (.if_icmp .ge 42, 3) := by decide +kernel
theorem dX12_mends_17 : decode cX12_mends 17 = .ok (.iconst 0, 1) := by decide +kernel
theorem dX12_mends_18 : decode cX12_mends 18 = .ok (.istore_n 3, 1) := by decide +kernel
theorem dX12_mends_19 : decode cX12_mends 19 = .ok (.iload_n 3, 1) := by decide +kernel
theorem dX12_mends_20 : decode cX12_mends 20 = .ok (.aload_n 0, 1) := by decide +kernel
theorem dX12_mends_21 : decode cX12_mends 21 = .ok (.iload_n 2, 1) := by decide +kernel
theorem dX12_mends_22 : decode cX12_mends 22 = .ok (.invokevirtual 168, 3) := by decide +kernel
theorem dX12_mends_25 : decode cX12_mends 25 = .ok (.if_icmp .ge 25, 3) := by decide +kernel
theorem dX12_mends_28 : decode cX12_mends 28 = .ok (.aload_n 0, 1) := by decide +kernel
theorem dX12_mends_29 : decode cX12_mends 29 = .ok (.iload_n 1, 1) := by decide +kernel
theorem dX12_mends_30 : decode cX12_mends 30 = .ok (.iload_n 2, 1) := by decide +kernel
theorem dX12_mends_31 : decode cX12_mends 31 = .ok (.iload_n 3, 1) := by decide +kernel
theorem dX12_mends_32 : decode cX12_mends 32 = .ok (.invokevirtual 171, 3) := by decide +kernel
theorem dX12_mends_35 : decode cX12_mends 35 = .ok (.aload_n 0, 1) := by decide +kernel
theorem dX12_mends_36 : decode cX12_mends 36 = .ok (.invokevirtual 174, 3) := by decide +kernel
theorem dX12_mends_39 : decode cX12_mends 39 = .ok (.ifCond .eq 5, 3) := by decide +kernel
theorem dX12_mends_42 : decode cX12_mends 42 = .ok (.iload_n 2, 1) := by decide +kernel
theorem dX12_mends_43 : decode cX12_mends 43 = .ok (.ireturn, 1) := by decide +kernel
theorem dX12_mends_44 : decode cX12_mends 44 = .ok (.iinc 3 1, 3) := by decide +kernel
theorem dX12_mends_47 : decode cX12_mends 47 = .ok (.goto (-28), 3) := by decide +kernel
theorem dX12_mends_50 : decode cX12_mends 50 = .ok (.iinc 2 1, 3) := by decide +kernel
theorem dX12_mends_53 : decode cX12_mends 53 = .ok (.goto (-41), 3) := by decide +kernel
theorem dX12_mends_56 : decode cX12_mends 56 = .ok (.bipush (-4), 2) := by decide +kernel
theorem dX12_mends_58 : decode cX12_mends 58 = .ok (.ireturn, 1) := by decide +kernel
theorem dX12_lacksOne_0 : decode cX12_lacksOne 0 = .ok (.aload_n 0, 1) := by decide +kernel
theorem dX12_lacksOne_1 : decode cX12_lacksOne 1 = .ok (.getfield 13, 3) := by decide +kernel
theorem dX12_lacksOne_4 : decode cX12_lacksOne 4 = .ok (.bipush 30, 2) := by decide +kernel
theorem dX12_lacksOne_6 : decode cX12_lacksOne 6 = .ok (.iload_n 1, 1) := by decide +kernel
theorem dX12_lacksOne_7 : decode cX12_lacksOne 7 = .ok (.iadd, 1) := by decide +kernel
theorem dX12_lacksOne_8 : decode cX12_lacksOne 8 = .ok (.iaload, 1) := by decide +kernel
theorem dX12_lacksOne_9 : decode cX12_lacksOne 9 = .ok (.istore_n 3, 1) := by decide +kernel
theorem dX12_lacksOne_10 : decode cX12_lacksOne 10 = .ok (.iconst 0, 1) := by decide +kernel
theorem dX12_lacksOne_11 : decode cX12_lacksOne 11 = .ok (.istore 4, 2) := by decide +kernel
theorem dX12_lacksOne_13 : decode cX12_lacksOne 13 = .ok (.iconst 0, 1) := by decide +kernel
theorem dX12_lacksOne_14 : decode cX12_lacksOne 14 = .ok (.istore 5, 2) := by decide +kernel
theorem dX12_lacksOne_16 : decode cX12_lacksOne 16 = .ok (.iload 5, 2) := by decide +kernel
theorem dX12_lacksOne_18 : decode cX12_lacksOne 18 = .ok (.iload_n 3, 1) := by decide +kernel
theorem dX12_lacksOne_19 : decode cX12_lacksOne 19 = .ok (.if_icmp .gt 116, 3) := by decide +kernel
theorem dX12_lacksOne_22 : decode cX12_lacksOne 22 = .ok (.aload_n 0, 1) := by decide +kernel
theorem dX12_lacksOne_23 : decode cX12_lacksOne 23 = .ok (.getfield 13, 3) := by decide +kernel
theorem dX12_lacksOne_26 : decode cX12_lacksOne 26 = .ok (.bipush 30, 2) := by decide +kernel
theorem dX12_lacksOne_28 : decode cX12_lacksOne 28 = .ok (.iload_n 2, 1) := by decide +kernel
theorem dX12_lacksOne_29 : decode cX12_lacksOne 29 = .ok (.iadd, 1) := by decide +kernel
theorem dX12_lacksOne_30 : decode cX12_lacksOne 30 = .ok (.iaload, 1) := by decide +kernel
theorem dX12_lacksOne_31 : decode cX12_lacksOne 31 = .ok (.iload_n 3, 1) := by decide +kernel
theorem dX12_lacksOne_32 : decode cX12_lacksOne 32 = .ok (.iconst 1, 1) := by decide +kernel
theorem dX12_lacksOne_33 : decode cX12_lacksOne 33 = .ok (.iadd, 1) := by decide +kernel
theorem dX12_lacksOne_34 : decode cX12_lacksOne 34 = .ok (.if_icmp .ne 101, 3) := by decide +kernel
theorem dX12_lacksOne_37 : decode cX12_lacksOne 37 = .ok (.iconst 1, 1) := by decide +kernel
theorem dX12_lacksOne_38 : decode cX12_lacksOne 38 = .ok (.istore 6, 2) := by decide +kernel
theorem dX12_lacksOne_40 : decode cX12_lacksOne 40 = .ok (.iconst 0, 1) := by decide +kernel
theorem dX12_lacksOne_41 : decode cX12_lacksOne 41 = .ok (.istore 7, 2) := by decide +kernel
theorem dX12_lacksOne_43 : decode cX12_lacksOne 43 = .ok (.iload 7, 2) := by decide +kernel
theorem dX12_lacksOne_45 : decode cX12_lacksOne 45 = .ok (.iload_n 3, 1) := by decide +kernel
theorem dX12_lacksOne_46 : decode cX12_lacksOne 46 = .ok (.if_icmp .ge 66, 3) := by decide +kernel
theorem dX12_lacksOne_49 : decode cX12_lacksOne 49 = .ok (.iload 6, 2) := by decide +kernel
theorem dX12_lacksOne_51 : decode cX12_lacksOne 51 = .ok (.ifCond .eq 52, 3) := by decide +kernel
theorem dX12_lacksOne_54 : decode cX12_lacksOne 54 = .ok (.aload_n 0, 1) := by decide +kernel
theorem dX12_lacksOne_55 : decode cX12_lacksOne 55 = .ok (.getfield 13, 3) := by decide +kernel
theorem dX12_lacksOne_58 : decode cX12_lacksOne 58 = .ok (.bipush 38, 2) := by decide +kernel
theorem dX12_lacksOne_60 : decode cX12_lacksOne 60 = .ok (.iconst 4, 1) := by decide +kernel
theorem dX12_lacksOne_61 : decode cX12_lacksOne 61 = .ok (.iload_n 1, 1) := by decide +kernel
theorem dX12_lacksOne_62 : decode cX12_lacksOne 62 = .ok (.imul, 1) := by decide +kernel
theorem dX12_lacksOne_63 : decode cX12_lacksOne 63 = .ok (.iadd, 1) := by decide +kernel
theorem dX12_lacksOne_64 : decode cX12_lacksOne 64 = .ok (.iload 7, 2) := by decide +kernel
theorem dX12_lacksOne_66 : decode cX12_lacksOne 66 = .ok (.iadd, 1) := by decide +kernel
theorem dX12_lacksOne_67 : decode cX12_lacksOne 67 = .ok (.iaload, 1) := by decide +kernel
theorem dX12_lacksOne_68 : decode cX12_lacksOne 68 = .ok (.aload_n 0, 1) := by decide +kernel
theorem dX12_lacksOne_69 : decode cX12_lacksOne 69 = .ok (.getfield 13, 3) := by decide +kernel
theorem dX12_lacksOne_72 : decode cX12_lacksOne 72 = .ok (.bipush 38, 2) := by decide +kernel
theorem dX12_lacksOne_74 : decode cX12_lacksOne 74 = .ok (.iconst 4, 1) := by decide +kernel
theorem dX12_lacksOne_75 : decode cX12_lacksOne 75 = .ok (.iload_n 2, 1) := by decide +kernel
theorem dX12_lacksOne_76 : decode cX12_lacksOne 76 = .ok (.imul, 1) := by decide +kernel
theorem dX12_lacksOne_77 : decode cX12_lacksOne 77 = .ok (.iadd, 1) := by decide +kernel
theorem dX12_lacksOne_78 : decode cX12_lacksOne 78 = .ok (.iload 7, 2) := by decide +kernel
theorem dX12_lacksOne_80 : decode cX12_lacksOne 80 = .ok (.iload 5, 2) := by decide +kernel
theorem dX12_lacksOne_82 : decode cX12_lacksOne 82 = .ok (.if_icmp .ge 8, 3) := by decide +kernel
theorem dX12_lacksOne_85 : decode cX12_lacksOne 85 = .ok (.iload 7, 2) := by decide +kernel
theorem dX12_lacksOne_87 : decode cX12_lacksOne 87 = .ok (.goto 7, 3) := by decide +kernel
theorem dX12_lacksOne_90 : decode cX12_lacksOne 90 = .ok (.iload 7, 2) := by decide +kernel
theorem dX12_lacksOne_92 : decode cX12_lacksOne 92 = .ok (.iconst 1, 1) := by decide +kernel
theorem dX12_lacksOne_93 : decode cX12_lacksOne 93 = .ok (.iadd, 1) := by decide +kernel
theorem dX12_lacksOne_94 : decode cX12_lacksOne 94 = .ok (.iadd, 1) := by decide +kernel
theorem dX12_lacksOne_95 : decode cX12_lacksOne 95 = .ok (.iaload, 1) := by decide +kernel
theorem dX12_lacksOne_96 : decode cX12_lacksOne 96 = .ok (.if_icmp .ne 7, 3) := by decide +kernel
theorem dX12_lacksOne_99 : decode cX12_lacksOne 99 = .ok (.iconst 1, 1) := by decide +kernel
theorem dX12_lacksOne_100 : decode cX12_lacksOne 100 = .ok (.goto 4, 3) := by decide +kernel
theorem dX12_lacksOne_103 : decode cX12_lacksOne 103 = .ok (.iconst 0, 1) := by decide +kernel
theorem dX12_lacksOne_104 : decode cX12_lacksOne 104 = .ok (.istore 6, 2) := by decide +kernel
theorem dX12_lacksOne_106 : decode cX12_lacksOne 106 = .ok (.iinc 7 1, 3) := by decide +kernel
theorem dX12_lacksOne_109 : decode cX12_lacksOne 109 = .ok (.goto (-66), 3) := by decide +kernel
theorem dX12_lacksOne_112 : decode cX12_lacksOne 112 = .ok (.iload 4, 2) := by decide +kernel
theorem dX12_lacksOne_114 : decode cX12_lacksOne 114 = .ok (.ifCond .ne 8, 3) := by decide +kernel
theorem dX12_lacksOne_117 : decode cX12_lacksOne 117 = .ok (.iload 6, 2) := by decide +kernel
theorem dX12_lacksOne_119 : decode cX12_lacksOne 119 = .ok (.ifCond .eq 7, 3) := by decide +kernel
theorem dX12_lacksOne_122 : decode cX12_lacksOne 122 = .ok (.iconst 1, 1) := by decide +kernel
theorem dX12_lacksOne_123 : decode cX12_lacksOne 123 = .ok (.goto 4, 3) := by decide +kernel
theorem dX12_lacksOne_126 : decode cX12_lacksOne 126 = .ok (.iconst 0, 1) := by decide +kernel
theorem dX12_lacksOne_127 : decode cX12_lacksOne 127 = .ok (.istore 4, 2) := by decide +kernel
theorem dX12_lacksOne_129 : decode cX12_lacksOne 129 = .ok (.iinc 5 1, 3) := by decide +kernel
theorem dX12_lacksOne_132 : decode cX12_lacksOne 132 = .ok (.goto (-116), 3) := by decide +kernel
theorem dX12_lacksOne_135 : decode cX12_lacksOne 135 = .ok (.iload 4, 2) := by decide +kernel
theorem dX12_lacksOne_137 : decode cX12_lacksOne 137 = .ok (.ireturn, 1) := by decide +kernel
set_option maxRecDepth 20000 in
theorem ggX12_spoiled_X12_in : GoodIn wsX12_spoiled wsX12_in := goodIn_r _ [5] (by decide +kernel) (by decide +kernel)
set_option maxRecDepth 20000 in
theorem gX12_spoiled_X12_in : GoodIn wsX12_spoiled (va_wsS RX12 66 yX12_in wsX12_in) := goodIn_app (goodIn_of _ (by decide +kernel)) ggX12_spoiled_X12_in
set_option maxRecDepth 20000 in
theorem ggX12_spoiled_X12_lacksOne : GoodIn wsX12_spoiled wsX12_lacksOne := goodIn_r _ [9, 1, 10, 11, 12, 13, 14, 15, 16, 17, 18, 19, 20, 21, 22, 23, 24, 25, 26, 27, 28, 29, 30, 31, 32, 33] (by decide +kernel) (by decide +kernel)
set_option maxRecDepth 20000 in
theorem gX12_spoiled_X12_lacksOne : GoodIn wsX12_spoiled (wsV RX12 177 RX12 yX12_lacksOne wsX12_lacksOne) := goodIn_app (goodIn_of _ (by decide +kernel)) ggX12_spoiled_X12_lacksOne
theorem dX12_spoiled_0 : decode cX12_spoiled 0 = .ok (.iload_n 1, 1) := by decide +kernel
theorem dX12_spoiled_1 : decode cX12_spoiled 1 = .ok (.iconst 0, 1) := by decide +kernel
theorem dX12_spoiled_2 : decode cX12_spoiled 2 = .ok (.iconst 1, 1) := by decide +kernel
theorem dX12_spoiled_3 : decode cX12_spoiled 3 = .ok (.invokestatic 66, 3) := by decide +kernel
theorem dX12_spoiled_6 : decode cX12_spoiled 6 = .ok (.ifCond .ne 5, 3) := by decide +kernel
theorem dX12_spoiled_9 : decode cX12_spoiled 9 = .ok (.iconst (-1), 1) := by decide +kernel
theorem dX12_spoiled_10 : decode cX12_spoiled 10 = .ok (.ireturn, 1) := by decide +kernel
theorem dX12_spoiled_11 : decode cX12_spoiled 11 = .ok (.iconst 0, 1) := by decide +kernel
theorem dX12_spoiled_12 : decode cX12_spoiled 12 = .ok (.istore_n 2, 1) := by decide +kernel
theorem dX12_spoiled_13 : decode cX12_spoiled 13 = .ok (.bipush (-4), 2) := by decide +kernel
theorem dX12_spoiled_15 : decode cX12_spoiled 15 = .ok (.istore_n 3, 1) := by decide +kernel
theorem dX12_spoiled_16 : decode cX12_spoiled 16 = .ok (.aload_n 0, 1) := by decide +kernel
theorem dX12_spoiled_17 : decode cX12_spoiled 17 = .ok (.getfield 13, 3) := by decide +kernel
theorem dX12_spoiled_20 : decode cX12_spoiled 20 = .ok (.iconst 4, 1) := by decide +kernel
theorem dX12_spoiled_21 : decode cX12_spoiled 21 = .ok (.iaload, 1) := by decide +kernel
theorem dX12_spoiled_22 : decode cX12_spoiled 22 = .ok (.iconst 1, 1) := by decide +kernel
theorem dX12_spoiled_23 : decode cX12_spoiled 23 = .ok (.isub, 1) := by decide +kernel
theorem dX12_spoiled_24 : decode cX12_spoiled 24 = .ok (.istore 4, 2) := by decide +kernel
theorem dX12_spoiled_26 : decode cX12_spoiled 26 = .ok (.iload 4, 2) := by decide +kernel
theorem dX12_spoiled_28 : decode cX12_spoiled 28 = .ok (.ifCond .lt 92, 3) := by decide +kernel
theorem dX12_spoiled_31 : decode cX12_spoiled 31 = .ok (.aload_n 0, 1) := by decide +kernel
theorem dX12_spoiled_32 : decode cX12_spoiled 32 = .ok (.getfield 13, 3) := by decide +kernel
theorem dX12_spoiled_35 : decode cX12_spoiled 35 = .ok (.iconst 4, 1) := by decide +kernel
theorem dX12_spoiled_36 : decode cX12_spoiled 36 = .ok (.iaload, 1) := by decide +kernel
theorem dX12_spoiled_37 : decode cX12_spoiled 37 = .ok (.iconst 1, 1) := by decide +kernel
theorem dX12_spoiled_38 : decode cX12_spoiled 38 = .ok (.isub, 1) := by decide +kernel
theorem dX12_spoiled_39 : decode cX12_spoiled 39 = .ok (.istore 5, 2) := by decide +kernel
theorem dX12_spoiled_41 : decode cX12_spoiled 41 = .ok (.iload 5, 2) := by decide +kernel
theorem dX12_spoiled_43 : decode cX12_spoiled 43 = .ok (.iload 4, 2) := by decide +kernel
theorem dX12_spoiled_45 : decode cX12_spoiled 45 = .ok (.if_icmp .le 69, 3) := by decide +kernel
theorem dX12_spoiled_48 : decode cX12_spoiled 48 = .ok (.aload_n 0, 1) := by decide +kernel
theorem dX12_spoiled_49 : decode cX12_spoiled 49 = .ok (.iload 4, 2) := by decide +kernel
theorem dX12_spoiled_51 : decode cX12_spoiled 51 = .ok (.iload 5, 2) := by decide +kernel
theorem dX12_spoiled_53 : decode cX12_spoiled 53 = .ok (.invokevirtual 177, 3) := by decide +kernel
theorem dX12_spoiled_56 : decode cX12_spoiled 56 = .ok (.ifCond .ne 14, 3) := by decide +kernel
theorem dX12_spoiled_59 : decode cX12_spoiled 59 = .ok (.aload_n 0, 1) := by decide +kernel
theorem dX12_spoiled_60 : decode cX12_spoiled 60 = .ok (.iload 5, 2) := by decide +kernel
theorem dX12_spoiled_62 : decode cX12_spoiled 62 = .ok (.iload 4, 2) := by decide +kernel
theorem dX12_spoiled_64 : decode cX12_spoiled 64 = .ok (.invokevirtual 177, 3) := by decide +kernel
theorem dX12_spoiled_67 : decode cX12_spoiled 67 = .ok (.ifCond .eq 7, 3) := by decide +kernel
theorem dX12_spoiled_70 : decode cX12_spoiled 70 = .ok (.iconst 1, 1) := by decide +kernel
theorem dX12_spoiled_71 : decode cX12_spoiled 71 = .ok (.goto 4, 3) := by decide +kernel
theorem dX12_spoiled_74 : decode cX12_spoiled 74 = .ok (.iconst 0, 1) := by decide +kernel
theorem dX12_spoiled_75 : decode cX12_spoiled 75 = .ok (.istore 6, 2) := by decide +kernel
theorem dX12_spoiled_77 : decode cX12_spoiled 77 = .ok (.iload_n 2, 1) := by decide +kernel
theorem dX12_spoiled_78 : decode cX12_spoiled 78 = .ok (.iload 6, 2) := by decide +kernel
theorem dX12_spoiled_80 : decode cX12_spoiled 80 = .ok (.ifCond .eq 7, 3) := by decide +kernel
theorem dX12_spoiled_83 : decode cX12_spoiled 83 = .ok (.iconst 1, 1) := by decide +kernel
theorem dX12_spoiled_84 : decode cX12_spoiled 84 = .ok (.goto 4, 3) := by decide +kernel
theorem dX12_spoiled_87 : decode cX12_spoiled 87 = .ok (.iconst 0, 1) := by decide +kernel
theorem dX12_spoiled_88 : decode cX12_spoiled 88 = .ok (.iadd, 1) := by decide +kernel
theorem dX12_spoiled_89 : decode cX12_spoiled 89 = .ok (.istore_n 2, 1) := by decide +kernel
theorem dX12_spoiled_90 : decode cX12_spoiled 90 = .ok (.iload 6, 2) := by decide +kernel
theorem dX12_spoiled_92 : decode cX12_spoiled 92 = .ok (.ifCond .eq 14, 3) := by decide +kernel
theorem dX12_spoiled_95 : decode cX12_spoiled 95 = .ok (.bipush 10, 2) := by decide +kernel
theorem dX12_spoiled_97 : decode cX12_spoiled 97 = .ok (.iload 4, 2) := by decide +kernel
theorem dX12_spoiled_99 : decode cX12_spoiled 99 = .ok (.imul, 1) := by decide +kernel
theorem dX12_spoiled_100 : decode cX12_spoiled 100 = .ok (.iload 5, 2) := by decide +kernel
theorem dX12_spoiled_102 : decode cX12_spoiled 102 = .ok (.iadd, 1) := by decide +kernel
theorem dX12_spoiled_103 : decode cX12_spoiled 103 = .ok (.goto 4, 3) := by decide +kernel
theorem dX12_spoiled_106 : decode cX12_spoiled 106 = .ok (.iload_n 3, 1) := by decide +kernel
theorem dX12_spoiled_107 : decode cX12_spoiled 107 = .ok (.istore_n 3, 1) := by decide +kernel
theorem dX12_spoiled_108 : decode cX12_spoiled 108 = .ok (.iinc 5 (-1), 3) := by decide +kernel
theorem dX12_spoiled_111 : decode cX12_spoiled 111 = .ok (.goto (-70), 3) := by decide +kernel
theorem dX12_spoiled_114 : decode cX12_spoiled 114 = .ok (.iinc 4 (-1), 3) := by decide +kernel
theorem dX12_spoiled_117 : decode cX12_spoiled 117 = .ok (.goto (-91), 3) := by decide +kernel
theorem dX12_spoiled_120 : decode cX12_spoiled 120 = .ok (.iload_n 1, 1) := by decide +kernel
theorem dX12_spoiled_121 : decode cX12_spoiled 121 = .ok (.ifCond .ne 7, 3) := by decide +kernel
theorem dX12_spoiled_124 : decode cX12_spoiled 124 = .ok (.iload_n 2, 1) := by decide +kernel
theorem dX12_spoiled_125 : decode cX12_spoiled 125 = .ok (.goto 4, 3) := by decide +kernel
theorem dX12_spoiled_128 : decode cX12_spoiled 128 = .ok (.iload_n 3, 1) := by decide +kernel
theorem dX12_spoiled_129 : decode cX12_spoiled 129 = .ok (.ireturn, 1) := by decide +kernel
set_option maxRecDepth 20000 in
theorem ggX12_tell_X12_isPlace : GoodIn wsX12_tell wsX12_isPlace := goodIn_r _ [9, 10, 11, 12, 8, 13, 14, 15, 16, 17, 18, 19, 20, 21, 22, 23, 24, 25, 26, 27, 28, 29, 30, 31, 32, 33, 34, 35, 36, 37] (by decide +kernel) (by decide +kernel)
set_option maxRecDepth 20000 in
theorem gX12_tell_X12_isPlace : GoodIn wsX12_tell (wsV RX12 118 RX12 yX12_isPlace wsX12_isPlace) := goodIn_app (goodIn_of _ (by decide +kernel)) ggX12_tell_X12_isPlace
theorem dX12_tell_0 : decode cX12_tell 0 = .ok (.aload_n 0, 1) := by decide +kernel
theorem dX12_tell_1 : decode cX12_tell 1 = .ok (.iload_n 1, 1) := by decide +kernel
theorem dX12_tell_2 : decode cX12_tell 2 = .ok (.invokevirtual 118, 3) := by decide +kernel
theorem dX12_tell_5 : decode cX12_tell 5 = .ok (.ifCond .ne 5, 3) := by decide +kernel
theorem dX12_tell_8 : decode cX12_tell 8 = .ok (.iconst (-1), 1) := by decide +kernel
theorem dX12_tell_9 : decode cX12_tell 9 = .ok (.ireturn, 1) := by decide +kernel
theorem dX12_tell_10 : decode cX12_tell 10 = .ok (.iconst 0, 1) := by decide +kernel
theorem dX12_tell_11 : decode cX12_tell 11 = .ok (.istore_n 2, 1) := by decide +kernel
theorem dX12_tell_12 : decode cX12_tell 12 = .ok (.iload_n 2, 1) := by decide +kernel
theorem dX12_tell_13 : decode cX12_tell 13 = .ok (.aload_n 0, 1) := by decide +kernel
theorem dX12_tell_14 : decode cX12_tell 14 = .ok (.getfield 115, 3) := by decide +kernel
theorem dX12_tell_17 : decode cX12_tell 17 = .ok (.if_icmp .ge 25, 3) := by decide +kernel
theorem dX12_tell_20 : decode cX12_tell 20 = .ok (.aload_n 0, 1) := by decide +kernel
theorem dX12_tell_21 : decode cX12_tell 21 = .ok (.getfield 31, 3) := by decide +kernel
theorem dX12_tell_24 : decode cX12_tell 24 = .ok (.bipush 10, 2) := by decide +kernel
theorem dX12_tell_26 : decode cX12_tell 26 = .ok (.iload_n 2, 1) := by decide +kernel
theorem dX12_tell_27 : decode cX12_tell 27 = .ok (.imul, 1) := by decide +kernel
theorem dX12_tell_28 : decode cX12_tell 28 = .ok (.iaload, 1) := by decide +kernel
theorem dX12_tell_29 : decode cX12_tell 29 = .ok (.iload_n 1, 1) := by decide +kernel
theorem dX12_tell_30 : decode cX12_tell 30 = .ok (.if_icmp .ne 6, 3) := by decide +kernel
theorem dX12_tell_33 : decode cX12_tell 33 = .ok (.bipush (-2), 2) := by decide +kernel
theorem dX12_tell_35 : decode cX12_tell 35 = .ok (.ireturn, 1) := by decide +kernel
theorem dX12_tell_36 : decode cX12_tell 36 = .ok (.iinc 2 1, 3) := by decide +kernel
theorem dX12_tell_39 : decode cX12_tell 39 = .ok (.goto (-27), 3) := by decide +kernel
theorem dX12_tell_42 : decode cX12_tell 42 = .ok (.aload_n 0, 1) := by decide +kernel
theorem dX12_tell_43 : decode cX12_tell 43 = .ok (.getfield 115, 3) := by decide +kernel
theorem dX12_tell_46 : decode cX12_tell 46 = .ok (.iconst 3, 1) := by decide +kernel
theorem dX12_tell_47 : decode cX12_tell 47 = .ok (.if_icmp .ne 6, 3) := by decide +kernel
theorem dX12_tell_50 : decode cX12_tell 50 = .ok (.bipush (-3), 2) := by decide +kernel
theorem dX12_tell_52 : decode cX12_tell 52 = .ok (.ireturn, 1) := by decide +kernel
theorem dX12_tell_53 : decode cX12_tell 53 = .ok (.aload_n 0, 1) := by decide +kernel
theorem dX12_tell_54 : decode cX12_tell 54 = .ok (.getfield 31, 3) := by decide +kernel
theorem dX12_tell_57 : decode cX12_tell 57 = .ok (.bipush 10, 2) := by decide +kernel
theorem dX12_tell_59 : decode cX12_tell 59 = .ok (.aload_n 0, 1) := by decide +kernel
theorem dX12_tell_60 : decode cX12_tell 60 = .ok (.getfield 115, 3) := by decide +kernel
theorem dX12_tell_63 : decode cX12_tell 63 = .ok (.imul, 1) := by decide +kernel
theorem dX12_tell_64 : decode cX12_tell 64 = .ok (.iload_n 1, 1) := by decide +kernel
theorem dX12_tell_65 : decode cX12_tell 65 = .ok (.iastore, 1) := by decide +kernel
theorem dX12_tell_66 : decode cX12_tell 66 = .ok (.aload_n 0, 1) := by decide +kernel
theorem dX12_tell_67 : decode cX12_tell 67 = .ok (.getfield 31, 3) := by decide +kernel
theorem dX12_tell_70 : decode cX12_tell 70 = .ok (.bipush 10, 2) := by decide +kernel
theorem dX12_tell_72 : decode cX12_tell 72 = .ok (.aload_n 0, 1) := by decide +kernel
theorem dX12_tell_73 : decode cX12_tell 73 = .ok (.getfield 115, 3) := by decide +kernel
theorem dX12_tell_76 : decode cX12_tell 76 = .ok (.imul, 1) := by decide +kernel
theorem dX12_tell_77 : decode cX12_tell 77 = .ok (.iconst 1, 1) := by decide +kernel
theorem dX12_tell_78 : decode cX12_tell 78 = .ok (.iadd, 1) := by decide +kernel
theorem dX12_tell_79 : decode cX12_tell 79 = .ok (.aload_n 0, 1) := by decide +kernel
theorem dX12_tell_80 : decode cX12_tell 80 = .ok (.getfield 112, 3) := by decide +kernel
theorem dX12_tell_83 : decode cX12_tell 83 = .ok (.iastore, 1) := by decide +kernel
theorem dX12_tell_84 : decode cX12_tell 84 = .ok (.iconst 0, 1) := by decide +kernel
theorem dX12_tell_85 : decode cX12_tell 85 = .ok (.istore_n 2, 1) := by decide +kernel
theorem dX12_tell_86 : decode cX12_tell 86 = .ok (.iload_n 2, 1) := by decide +kernel
theorem dX12_tell_87 : decode cX12_tell 87 = .ok (.aload_n 0, 1) := by decide +kernel
theorem dX12_tell_88 : decode cX12_tell 88 = .ok (.getfield 112, 3) := by decide +kernel
theorem dX12_tell_91 : decode cX12_tell 91 = .ok (.if_icmp .ge 31, 3) := by decide +kernel
theorem dX12_tell_94 : decode cX12_tell 94 = .ok (.aload_n 0, 1) := by decide +kernel
theorem dX12_tell_95 : decode cX12_tell 95 = .ok (.getfield 31, 3) := by decide +kernel
theorem dX12_tell_98 : decode cX12_tell 98 = .ok (.bipush 10, 2) := by decide +kernel
theorem dX12_tell_100 : decode cX12_tell 100 = .ok (.aload_n 0, 1) := by decide +kernel
theorem dX12_tell_101 : decode cX12_tell 101 = .ok (.getfield 115, 3) := by decide +kernel
theorem dX12_tell_104 : decode cX12_tell 104 = .ok (.imul, 1) := by decide +kernel
theorem dX12_tell_105 : decode cX12_tell 105 = .ok (.iconst 2, 1) := by decide +kernel
theorem dX12_tell_106 : decode cX12_tell 106 = .ok (.iadd, 1) := by decide +kernel
theorem dX12_tell_107 : decode cX12_tell 107 = .ok (.iload_n 2, 1) := by decide +kernel
theorem dX12_tell_108 : decode cX12_tell 108 = .ok (.iadd, 1) := by decide +kernel
theorem dX12_tell_109 : decode cX12_tell 109 = .ok (.aload_n 0, 1) := by decide +kernel
theorem dX12_tell_110 : decode cX12_tell 110 = .ok (.getfield 28, 3) := by decide +kernel
theorem dX12_tell_113 : decode cX12_tell 113 = .ok (.iload_n 2, 1) := by decide +kernel
theorem dX12_tell_114 : decode cX12_tell 114 = .ok (.iaload, 1) := by decide +kernel
theorem dX12_tell_115 : decode cX12_tell 115 = .ok (.iastore, 1) := by decide +kernel
theorem dX12_tell_116 : decode cX12_tell 116 = .ok (.iinc 2 1, 3) := by decide +kernel
theorem dX12_tell_119 : decode cX12_tell 119 = .ok (.goto (-33), 3) := by decide +kernel
theorem dX12_tell_122 : decode cX12_tell 122 = .ok (.aload_n 0, 1) := by decide +kernel
theorem dX12_tell_123 : decode cX12_tell 123 = .ok (.dup, 1) := by decide +kernel
theorem dX12_tell_124 : decode cX12_tell 124 = .ok (.getfield 115, 3) := by decide +kernel
theorem dX12_tell_127 : decode cX12_tell 127 = .ok (.iconst 1, 1) := by decide +kernel
theorem dX12_tell_128 : decode cX12_tell 128 = .ok (.iadd, 1) := by decide +kernel
theorem dX12_tell_129 : decode cX12_tell 129 = .ok (.putfield 115, 3) := by decide +kernel
theorem dX12_tell_132 : decode cX12_tell 132 = .ok (.aload_n 0, 1) := by decide +kernel
theorem dX12_tell_133 : decode cX12_tell 133 = .ok (.getfield 115, 3) := by decide +kernel
theorem dX12_tell_136 : decode cX12_tell 136 = .ok (.ireturn, 1) := by decide +kernel
theorem dX12_forget_0 : decode cX12_forget 0 = .ok (.aload_n 0, 1) := by decide +kernel
theorem dX12_forget_1 : decode cX12_forget 1 = .ok (.getfield 115, 3) := by decide +kernel
theorem dX12_forget_4 : decode cX12_forget 4 = .ok (.istore_n 1, 1) := by decide +kernel
theorem dX12_forget_5 : decode cX12_forget 5 = .ok (.aload_n 0, 1) := by decide +kernel
theorem dX12_forget_6 : decode cX12_forget 6 = .ok (.iconst 0, 1) := by decide +kernel
theorem dX12_forget_7 : decode cX12_forget 7 = .ok (.putfield 115, 3) := by decide +kernel
theorem dX12_forget_10 : decode cX12_forget 10 = .ok (.iload_n 1, 1) := by decide +kernel
theorem dX12_forget_11 : decode cX12_forget 11 = .ok (.ireturn, 1) := by decide +kernel
set_option maxRecDepth 20000 in
theorem ggX12_isSo_X12_plays : GoodIn wsX12_isSo wsX12_plays := goodIn_r _ [11, 4, 12, 13, 14, 15, 16, 17, 18, 19, 20, 21, 10, 22, 23, 24, 25, 26, 6, 27, 28, 29, 30, 5, 31, 32, 33, 34, 35, 36, 37, 38, 39, 40, 41, 42, 43, 44, 45, 46, 47, 48, 49, 50, 51, 52, 53, 54] (by decide +kernel) (by decide +kernel)
set_option maxRecDepth 20000 in
theorem gX12_isSo_X12_plays : GoodIn wsX12_isSo (wsV RX12 149 RX12 yX12_plays wsX12_plays) := goodIn_app (goodIn_of _ (by decide +kernel)) ggX12_isSo_X12_plays
theorem dX12_isSo_0 : decode cX12_isSo 0 = .ok (.iconst 1, 1) := by decide +kernel
theorem dX12_isSo_1 : decode cX12_isSo 1 = .ok (.istore_n 1, 1) := by decide +kernel
theorem dX12_isSo_2 : decode cX12_isSo 2 = .ok (.iconst 0, 1) := by decide +kernel
theorem dX12_isSo_3 : decode cX12_isSo 3 = .ok (.istore_n 2, 1) := by decide +kernel
theorem dX12_isSo_4 : decode cX12_isSo 4 = .ok (.iload_n 2, 1) := by decide +kernel
theorem dX12_isSo_5 : decode cX12_isSo 5 = .ok (.aload_n 0, 1) := by decide +kernel
theorem dX12_isSo_6 : decode cX12_isSo 6 = .ok (.getfield 115, 3) := by decide +kernel
theorem dX12_isSo_9 : decode cX12_isSo 9 = .ok (.if_icmp .ge 116, 3) := by decide +kernel
theorem dX12_isSo_12 : decode cX12_isSo 12 = .ok (.iload_n 1, 1) := by decide +kernel
theorem dX12_isSo_13 : decode cX12_isSo 13 = .ok (.ifCond .eq 112, 3) := by decide +kernel
theorem dX12_isSo_16 : decode cX12_isSo 16 = .ok (.aload_n 0, 1) := by decide +kernel
theorem dX12_isSo_17 : decode cX12_isSo 17 = .ok (.aload_n 0, 1) := by decide +kernel
theorem dX12_isSo_18 : decode cX12_isSo 18 = .ok (.getfield 31, 3) := by decide +kernel
theorem dX12_isSo_21 : decode cX12_isSo 21 = .ok (.bipush 10, 2) := by decide +kernel
theorem dX12_isSo_23 : decode cX12_isSo 23 = .ok (.iload_n 2, 1) := by decide +kernel
theorem dX12_isSo_24 : decode cX12_isSo 24 = .ok (.imul, 1) := by decide +kernel
theorem dX12_isSo_25 : decode cX12_isSo 25 = .ok (.iaload, 1) := by decide +kernel
theorem dX12_isSo_26 : decode cX12_isSo 26 = .ok (.aload_n 0, 1) := by decide +kernel
theorem dX12_isSo_27 : decode cX12_isSo 27 = .ok (.getfield 19, 3) := by decide +kernel
theorem dX12_isSo_30 : decode cX12_isSo 30 = .ok (.iconst 1, 1) := by decide +kernel
theorem dX12_isSo_31 : decode cX12_isSo 31 = .ok (.iaload, 1) := by decide +kernel
theorem dX12_isSo_32 : decode cX12_isSo 32 = .ok (.invokevirtual 149, 3) := by decide +kernel
theorem dX12_isSo_35 : decode cX12_isSo 35 = .ok (.aload_n 0, 1) := by decide +kernel
theorem dX12_isSo_36 : decode cX12_isSo 36 = .ok (.getfield 134, 3) := by decide +kernel
theorem dX12_isSo_39 : decode cX12_isSo 39 = .ok (.aload_n 0, 1) := by decide +kernel
theorem dX12_isSo_40 : decode cX12_isSo 40 = .ok (.getfield 31, 3) := by decide +kernel
theorem dX12_isSo_43 : decode cX12_isSo 43 = .ok (.bipush 10, 2) := by decide +kernel
theorem dX12_isSo_45 : decode cX12_isSo 45 = .ok (.iload_n 2, 1) := by decide +kernel
theorem dX12_isSo_46 : decode cX12_isSo 46 = .ok (.imul, 1) := by decide +kernel
theorem dX12_isSo_47 : decode cX12_isSo 47 = .ok (.iconst 1, 1) := by decide +kernel
theorem dX12_isSo_48 : decode cX12_isSo 48 = .ok (.iadd, 1) := by decide +kernel
theorem dX12_isSo_49 : decode cX12_isSo 49 = .ok (.iaload, 1) := by decide +kernel
theorem dX12_isSo_50 : decode cX12_isSo 50 = .ok (.if_icmp .ne 7, 3) := by decide +kernel
theorem dX12_isSo_53 : decode cX12_isSo 53 = .ok (.iconst 1, 1) := by decide +kernel
theorem dX12_isSo_54 : decode cX12_isSo 54 = .ok (.goto 4, 3) := by decide +kernel
theorem dX12_isSo_57 : decode cX12_isSo 57 = .ok (.iconst 0, 1) := by decide +kernel
theorem dX12_isSo_58 : decode cX12_isSo 58 = .ok (.istore_n 1, 1) := by decide +kernel
theorem dX12_isSo_59 : decode cX12_isSo 59 = .ok (.iconst 0, 1) := by decide +kernel
theorem dX12_isSo_60 : decode cX12_isSo 60 = .ok (.istore_n 3, 1) := by decide +kernel
theorem dX12_isSo_61 : decode cX12_isSo 61 = .ok (.iload_n 3, 1) := by decide +kernel
theorem dX12_isSo_62 : decode cX12_isSo 62 = .ok (.aload_n 0, 1) := by decide +kernel
theorem dX12_isSo_63 : decode cX12_isSo 63 = .ok (.getfield 31, 3) := by decide +kernel
theorem dX12_isSo_66 : decode cX12_isSo 66 = .ok (.bipush 10, 2) := by decide +kernel
theorem dX12_isSo_68 : decode cX12_isSo 68 = .ok (.iload_n 2, 1) := by decide +kernel
theorem dX12_isSo_69 : decode cX12_isSo 69 = .ok (.imul, 1) := by decide +kernel
theorem dX12_isSo_70 : decode cX12_isSo 70 = .ok (.iconst 1, 1) := by decide +kernel
theorem dX12_isSo_71 : decode cX12_isSo 71 = .ok (.iadd, 1) := by decide +kernel
theorem dX12_isSo_72 : decode cX12_isSo 72 = .ok (.iaload, 1) := by decide +kernel
theorem dX12_isSo_73 : decode cX12_isSo 73 = .ok (.if_icmp .ge 46, 3) := by decide +kernel
theorem dX12_isSo_76 : decode cX12_isSo 76 = .ok (.iload_n 1, 1) := by decide +kernel
theorem dX12_isSo_77 : decode cX12_isSo 77 = .ok (.ifCond .eq 42, 3) := by decide +kernel
theorem dX12_isSo_80 : decode cX12_isSo 80 = .ok (.aload_n 0, 1) := by decide +kernel
theorem dX12_isSo_81 : decode cX12_isSo 81 = .ok (.getfield 40, 3) := by decide +kernel
theorem dX12_isSo_84 : decode cX12_isSo 84 = .ok (.aload_n 0, 1) := by decide +kernel
theorem dX12_isSo_85 : decode cX12_isSo 85 = .ok (.getfield 56, 3) := by decide +kernel
theorem dX12_isSo_88 : decode cX12_isSo 88 = .ok (.iload_n 3, 1) := by decide +kernel
theorem dX12_isSo_89 : decode cX12_isSo 89 = .ok (.iaload, 1) := by decide +kernel
theorem dX12_isSo_90 : decode cX12_isSo 90 = .ok (.iaload, 1) := by decide +kernel
theorem dX12_isSo_91 : decode cX12_isSo 91 = .ok (.aload_n 0, 1) := by decide +kernel
theorem dX12_isSo_92 : decode cX12_isSo 92 = .ok (.getfield 31, 3) := by decide +kernel
theorem dX12_isSo_95 : decode cX12_isSo 95 = .ok (.bipush 10, 2) := by decide +kernel
theorem dX12_isSo_97 : decode cX12_isSo 97 = .ok (.iload_n 2, 1) := by decide +kernel
theorem dX12_isSo_98 : decode cX12_isSo 98 = .ok (.imul, 1) := by decide +kernel
theorem dX12_isSo_99 : decode cX12_isSo 99 = .ok (.iconst 2, 1) := by decide +kernel
theorem dX12_isSo_100 : decode cX12_isSo 100 = .ok (.iadd, 1) := by decide +kernel
theorem dX12_isSo_101 : decode cX12_isSo 101 = .ok (.iload_n 3, 1) := by decide +kernel
theorem dX12_isSo_102 : decode cX12_isSo 102 = .ok (.iadd, 1) := by decide +kernel
theorem dX12_isSo_103 : decode cX12_isSo 103 = .ok (.iaload, 1) := by decide +kernel
theorem dX12_isSo_104 : decode cX12_isSo 104 = .ok (.if_icmp .ne 7, 3) := by decide +kernel
theorem dX12_isSo_107 : decode cX12_isSo 107 = .ok (.iconst 1, 1) := by decide +kernel
theorem dX12_isSo_108 : decode cX12_isSo 108 = .ok (.goto 4, 3) := by decide +kernel
theorem dX12_isSo_111 : decode cX12_isSo 111 = .ok (.iconst 0, 1) := by decide +kernel
theorem dX12_isSo_112 : decode cX12_isSo 112 = .ok (.istore_n 1, 1) := by decide +kernel
theorem dX12_isSo_113 : decode cX12_isSo 113 = .ok (.iinc 3 1, 3) := by decide +kernel
theorem dX12_isSo_116 : decode cX12_isSo 116 = .ok (.goto (-55), 3) := by decide +kernel
theorem dX12_isSo_119 : decode cX12_isSo 119 = .ok (.iinc 2 1, 3) := by decide +kernel
theorem dX12_isSo_122 : decode cX12_isSo 122 = .ok (.goto (-118), 3) := by decide +kernel
theorem dX12_isSo_125 : decode cX12_isSo 125 = .ok (.iload_n 1, 1) := by decide +kernel
theorem dX12_isSo_126 : decode cX12_isSo 126 = .ok (.ireturn, 1) := by decide +kernel
set_option maxRecDepth 20000 in
theorem ggX12_secret_X12_in : GoodIn wsX12_secret wsX12_in := goodIn_r _ [7] (by decide +kernel) (by decide +kernel)
set_option maxRecDepth 20000 in
theorem gX12_secret_X12_in : GoodIn wsX12_secret (va_wsS RX12 66 yX12_in wsX12_in) := goodIn_app (goodIn_of _ (by decide +kernel)) ggX12_secret_X12_in
set_option maxRecDepth 20000 in
theorem ggX12_secret_X12_starts : GoodIn wsX12_secret wsX12_starts := goodIn_r _ [11, 12, 2, 13, 14, 15, 6, 16, 17, 18, 19, 47, 48, 49, 50, 51, 52, 53, 54, 55, 56, 57, 58, 59, 60, 61, 62, 63, 64, 65, 66, 67, 68, 69, 70] (by decide +kernel) (by decide +kernel)
set_option maxRecDepth 20000 in
theorem gX12_secret_X12_starts : GoodIn wsX12_secret (wsV RX12 146 RX12 yX12_starts wsX12_starts) := goodIn_app (goodIn_of _ (by decide +kernel)) ggX12_secret_X12_starts
set_option maxRecDepth 20000 in
theorem ggX12_secret_X12_tries : GoodIn wsX12_secret wsX12_tries := goodIn_r _ [16, 17, 12, 18, 19, 47, 48, 49, 50, 51, 52, 53, 54, 55, 56, 57, 58, 59, 60, 61, 62, 63, 64, 65, 66, 67, 68, 69, 70] (by decide +kernel) (by decide +kernel)
set_option maxRecDepth 20000 in
theorem gX12_secret_X12_tries : GoodIn wsX12_secret (wsV RX12 130 RX12 yX12_tries wsX12_tries) := goodIn_app (goodIn_of _ (by decide +kernel)) ggX12_secret_X12_tries
set_option maxRecDepth 20000 in
theorem ggX12_secret_X12_isSo : GoodIn wsX12_secret wsX12_isSo := goodIn_r _ [23, 24, 25, 2, 26, 18, 27, 28, 29, 30, 6, 31, 12, 32, 33, 34, 19, 1, 17, 35, 36, 37, 38, 39, 40, 41, 42, 43, 44, 45, 46, 47, 48, 49, 50, 51, 52, 53, 54, 55, 56, 57, 58, 59, 60, 61, 62, 63, 64, 65, 66, 67, 68, 69, 70] (by decide +kernel) (by decide +kernel)
set_option maxRecDepth 20000 in
theorem gX12_secret_X12_isSo : GoodIn wsX12_secret (wsV RX12 181 RX12 yX12_isSo wsX12_isSo) := goodIn_app (goodIn_of _ (by decide +kernel)) ggX12_secret_X12_isSo
theorem dX12_secret_0 : decode cX12_secret 0 = .ok (.iload_n 1, 1) := by decide +kernel
theorem dX12_secret_1 : decode cX12_secret 1 = .ok (.iconst 0, 1) := by decide +kernel
theorem dX12_secret_2 : decode cX12_secret 2 = .ok (.iconst 1, 1) := by decide +kernel
theorem dX12_secret_3 : decode cX12_secret 3 = .ok (.invokestatic 66, 3) := by decide +kernel
theorem dX12_secret_6 : decode cX12_secret 6 = .ok (.ifCond .ne 5, 3) := by decide +kernel
theorem dX12_secret_9 : decode cX12_secret 9 = .ok (.iconst (-1), 1) := by decide +kernel
theorem dX12_secret_10 : decode cX12_secret 10 = .ok (.ireturn, 1) := by decide +kernel
theorem dX12_secret_11 : decode cX12_secret 11 = .ok (.iconst 0, 1) := by decide +kernel
theorem dX12_secret_12 : decode cX12_secret 12 = .ok (.istore_n 2, 1) := by decide +kernel
theorem dX12_secret_13 : decode cX12_secret 13 = .ok (.bipush (-4), 2) := by decide +kernel
theorem dX12_secret_15 : decode cX12_secret 15 = .ok (.istore_n 3, 1) := by decide +kernel
theorem dX12_secret_16 : decode cX12_secret 16 = .ok (.aload_n 0, 1) := by decide +kernel
theorem dX12_secret_17 : decode cX12_secret 17 = .ok (.getfield 13, 3) := by decide +kernel
theorem dX12_secret_20 : decode cX12_secret 20 = .ok (.iconst 0, 1) := by decide +kernel
theorem dX12_secret_21 : decode cX12_secret 21 = .ok (.iaload, 1) := by decide +kernel
theorem dX12_secret_22 : decode cX12_secret 22 = .ok (.iconst 1, 1) := by decide +kernel
theorem dX12_secret_23 : decode cX12_secret 23 = .ok (.isub, 1) := by decide +kernel
theorem dX12_secret_24 : decode cX12_secret 24 = .ok (.istore 4, 2) := by decide +kernel
theorem dX12_secret_26 : decode cX12_secret 26 = .ok (.iload 4, 2) := by decide +kernel
theorem dX12_secret_28 : decode cX12_secret 28 = .ok (.ifCond .lt 121, 3) := by decide +kernel
theorem dX12_secret_31 : decode cX12_secret 31 = .ok (.aload_n 0, 1) := by decide +kernel
theorem dX12_secret_32 : decode cX12_secret 32 = .ok (.getfield 13, 3) := by decide +kernel
theorem dX12_secret_35 : decode cX12_secret 35 = .ok (.iconst 3, 1) := by decide +kernel
theorem dX12_secret_36 : decode cX12_secret 36 = .ok (.iaload, 1) := by decide +kernel
theorem dX12_secret_37 : decode cX12_secret 37 = .ok (.iconst 1, 1) := by decide +kernel
theorem dX12_secret_38 : decode cX12_secret 38 = .ok (.isub, 1) := by decide +kernel
theorem dX12_secret_39 : decode cX12_secret 39 = .ok (.istore 5, 2) := by decide +kernel
theorem dX12_secret_41 : decode cX12_secret 41 = .ok (.iload 5, 2) := by decide +kernel
theorem dX12_secret_43 : decode cX12_secret 43 = .ok (.ifCond .lt 100, 3) := by decide +kernel
theorem dX12_secret_46 : decode cX12_secret 46 = .ok (.aload_n 0, 1) := by decide +kernel
theorem dX12_secret_47 : decode cX12_secret 47 = .ok (.getfield 19, 3) := by decide +kernel
theorem dX12_secret_50 : decode cX12_secret 50 = .ok (.iconst 1, 1) := by decide +kernel
theorem dX12_secret_51 : decode cX12_secret 51 = .ok (.iaload, 1) := by decide +kernel
theorem dX12_secret_52 : decode cX12_secret 52 = .ok (.istore 6, 2) := by decide +kernel
theorem dX12_secret_54 : decode cX12_secret 54 = .ok (.iload 6, 2) := by decide +kernel
theorem dX12_secret_56 : decode cX12_secret 56 = .ok (.ifCond .lt 81, 3) := by decide +kernel
theorem dX12_secret_59 : decode cX12_secret 59 = .ok (.iload 6, 2) := by decide +kernel
theorem dX12_secret_61 : decode cX12_secret 61 = .ok (.aload_n 0, 1) := by decide +kernel
theorem dX12_secret_62 : decode cX12_secret 62 = .ok (.getfield 19, 3) := by decide +kernel
theorem dX12_secret_65 : decode cX12_secret 65 = .ok (.iconst 1, 1) := by decide +kernel
