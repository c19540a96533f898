theorem dX5_holdsAt_51 : decode cX5_holdsAt 51 = .ok (.iaload, 1) := by decide +kernel
theorem dX5_holdsAt_52 : decode cX5_holdsAt 52 = .ok (.if_icmp .eq 5, 3) := by decide +kernel
theorem dX5_holdsAt_55 : decode cX5_holdsAt 55 = .ok (.iconst 0, 1) := by decide +kernel
theorem dX5_holdsAt_56 : decode cX5_holdsAt 56 = .ok (.ireturn, 1) := by decide +kernel
theorem dX5_holdsAt_57 : decode cX5_holdsAt 57 = .ok (.iinc 4 1, 3) := by decide +kernel
theorem dX5_holdsAt_60 : decode cX5_holdsAt 60 = .ok (.goto (-33), 3) := by decide +kernel
theorem dX5_holdsAt_63 : decode cX5_holdsAt 63 = .ok (.iconst 1, 1) := by decide +kernel
theorem dX5_holdsAt_64 : decode cX5_holdsAt 64 = .ok (.ireturn, 1) := by decide +kernel
set_option maxRecDepth 20000 in
theorem ggX5_isJust_X5_holdsAt : GoodIn wsX5_isJust wsX5_holdsAt := goodIn_r _ [7, 1, 2, 8, 9, 10, 11, 12, 13, 14, 15, 16, 17] (by decide +kernel) (by decide +kernel)
set_option maxRecDepth 20000 in
theorem gX5_isJust_X5_holdsAt : GoodIn wsX5_isJust (wsV RX5 70 RX5 yX5_holdsAt wsX5_holdsAt) := goodIn_app (goodIn_of _ (by decide +kernel)) ggX5_isJust_X5_holdsAt
theorem dX5_isJust_0 : decode cX5_isJust 0 = .ok (.aload_n 0, 1) := by decide +kernel
theorem dX5_isJust_1 : decode cX5_isJust 1 = .ok (.getfield 25, 3) := by decide +kernel
theorem dX5_isJust_4 : decode cX5_isJust 4 = .ok (.aload_n 1, 1) := by decide +kernel
theorem dX5_isJust_5 : decode cX5_isJust 5 = .ok (.getfield 66, 3) := by decide +kernel
theorem dX5_isJust_8 : decode cX5_isJust 8 = .ok (.if_icmp .ne 20, 3) := by decide +kernel
theorem dX5_isJust_11 : decode cX5_isJust 11 = .ok (.aload_n 0, 1) := by decide +kernel
theorem dX5_isJust_12 : decode cX5_isJust 12 = .ok (.aload_n 1, 1) := by decide +kernel
theorem dX5_isJust_13 : decode cX5_isJust 13 = .ok (.iconst 0, 1) := by decide +kernel
theorem dX5_isJust_14 : decode cX5_isJust 14 = .ok (.aload_n 0, 1) := by decide +kernel
theorem dX5_isJust_15 : decode cX5_isJust 15 = .ok (.getfield 25, 3) := by decide +kernel
theorem dX5_isJust_18 : decode cX5_isJust 18 = .ok (.invokevirtual 70, 3) := by decide +kernel
theorem dX5_isJust_21 : decode cX5_isJust 21 = .ok (.ifCond .eq 7, 3) := by decide +kernel
theorem dX5_isJust_24 : decode cX5_isJust 24 = .ok (.iconst 1, 1) := by decide +kernel
theorem dX5_isJust_25 : decode cX5_isJust 25 = .ok (.goto 4, 3) := by decide +kernel
theorem dX5_isJust_28 : decode cX5_isJust 28 = .ok (.iconst 0, 1) := by decide +kernel
theorem dX5_isJust_29 : decode cX5_isJust 29 = .ok (.ireturn, 1) := by decide +kernel
set_option maxRecDepth 20000 in
theorem ggX6_init_X5_init : GoodIn wsX6_init wsX5_init := goodIn_r _ [22, 23, 2, 3, 24, 4, 25, 26, 27, 49, 50, 51, 52, 53, 54] (by decide +kernel) (by decide +kernel)
set_option maxRecDepth 20000 in
theorem gX6_init_X5_init : GoodIn wsX6_init (wsX5_init) := ggX6_init_X5_init
set_option maxRecDepth 20000 in
theorem ggX6_init_X7_init : GoodIn wsX6_init wsX7_init := goodIn_r _ [30, 31, 2, 3, 4, 32, 55, 56] (by decide +kernel) (by decide +kernel)
set_option maxRecDepth 20000 in
theorem gX6_init_X7_init : GoodIn wsX6_init (wsX7_init) := ggX6_init_X7_init
set_option maxRecDepth 20000 in
theorem ggX6_init_X3_init : GoodIn wsX6_init wsX3_init := goodIn_r _ [35, 36, 2, 3, 4, 37, 38, 39, 57, 58, 59, 60] (by decide +kernel) (by decide +kernel)
set_option maxRecDepth 20000 in
theorem gX6_init_X3_init : GoodIn wsX6_init (wsX3_init) := ggX6_init_X3_init
theorem dX6_init_0 : decode cX6_init 0 = .ok (.aload_n 0, 1) := by decide +kernel
theorem dX6_init_1 : decode cX6_init 1 = .ok (.invokespecial 3, 3) := by decide +kernel
theorem dX6_init_4 : decode cX6_init 4 = .ok (.aload_n 0, 1) := by decide +kernel
theorem dX6_init_5 : decode cX6_init 5 = .ok (.iconst 3, 1) := by decide +kernel
theorem dX6_init_6 : decode cX6_init 6 = .ok (.newarray .int, 2) := by decide +kernel
theorem dX6_init_8 : decode cX6_init 8 = .ok (.putfield 9, 3) := by decide +kernel
theorem dX6_init_11 : decode cX6_init 11 = .ok (.aload_n 0, 1) := by decide +kernel
theorem dX6_init_12 : decode cX6_init 12 = .ok (.iconst 3, 1) := by decide +kernel
theorem dX6_init_13 : decode cX6_init 13 = .ok (.anewarray 15, 3) := by decide +kernel
theorem dX6_init_16 : decode cX6_init 16 = .ok (.putfield 17, 3) := by decide +kernel
theorem dX6_init_19 : decode cX6_init 19 = .ok (.aload_n 0, 1) := by decide +kernel
theorem dX6_init_20 : decode cX6_init 20 = .ok (.iconst 3, 1) := by decide +kernel
theorem dX6_init_21 : decode cX6_init 21 = .ok (.anewarray 21, 3) := by decide +kernel
theorem dX6_init_24 : decode cX6_init 24 = .ok (.putfield 23, 3) := by decide +kernel
theorem dX6_init_27 : decode cX6_init 27 = .ok (.aload_n 0, 1) := by decide +kernel
theorem dX6_init_28 : decode cX6_init 28 = .ok (.aload_n 1, 1) := by decide +kernel
theorem dX6_init_29 : decode cX6_init 29 = .ok (.putfield 27, 3) := by decide +kernel
theorem dX6_init_32 : decode cX6_init 32 = .ok (.aload_n 0, 1) := by decide +kernel
theorem dX6_init_33 : decode cX6_init 33 = .ok (.aload_n 2, 1) := by decide +kernel
theorem dX6_init_34 : decode cX6_init 34 = .ok (.putfield 31, 3) := by decide +kernel
theorem dX6_init_37 : decode cX6_init 37 = .ok (.aload_n 0, 1) := by decide +kernel
theorem dX6_init_38 : decode cX6_init 38 = .ok (.new 35, 3) := by decide +kernel
theorem dX6_init_41 : decode cX6_init 41 = .ok (.dup, 1) := by decide +kernel
theorem dX6_init_42 : decode cX6_init 42 = .ok (.aload_n 1, 1) := by decide +kernel
theorem dX6_init_43 : decode cX6_init 43 = .ok (.bipush 25, 2) := by decide +kernel
theorem dX6_init_45 : decode cX6_init 45 = .ok (.invokespecial 37, 3) := by decide +kernel
theorem dX6_init_48 : decode cX6_init 48 = .ok (.putfield 40, 3) := by decide +kernel
theorem dX6_init_51 : decode cX6_init 51 = .ok (.iconst 0, 1) := by decide +kernel
theorem dX6_init_52 : decode cX6_init 52 = .ok (.istore_n 3, 1) := by decide +kernel
theorem dX6_init_53 : decode cX6_init 53 = .ok (.iload_n 3, 1) := by decide +kernel
theorem dX6_init_54 : decode cX6_init 54 = .ok (.iconst 3, 1) := by decide +kernel
theorem dX6_init_55 : decode cX6_init 55 = .ok (.if_icmp .ge 39, 3) := by decide +kernel
theorem dX6_init_58 : decode cX6_init 58 = .ok (.aload_n 0, 1) := by decide +kernel
theorem dX6_init_59 : decode cX6_init 59 = .ok (.getfield 17, 3) := by decide +kernel
theorem dX6_init_62 : decode cX6_init 62 = .ok (.iload_n 3, 1) := by decide +kernel
theorem dX6_init_63 : decode cX6_init 63 = .ok (.new 15, 3) := by decide +kernel
theorem dX6_init_66 : decode cX6_init 66 = .ok (.dup, 1) := by decide +kernel
theorem dX6_init_67 : decode cX6_init 67 = .ok (.bipush 8, 2) := by decide +kernel
theorem dX6_init_69 : decode cX6_init 69 = .ok (.invokespecial 44, 3) := by decide +kernel
theorem dX6_init_72 : decode cX6_init 72 = .ok (.aastore, 1) := by decide +kernel
theorem dX6_init_73 : decode cX6_init 73 = .ok (.aload_n 0, 1) := by decide +kernel
theorem dX6_init_74 : decode cX6_init 74 = .ok (.getfield 23, 3) := by decide +kernel
theorem dX6_init_77 : decode cX6_init 77 = .ok (.iload_n 3, 1) := by decide +kernel
theorem dX6_init_78 : decode cX6_init 78 = .ok (.new 21, 3) := by decide +kernel
theorem dX6_init_81 : decode cX6_init 81 = .ok (.dup, 1) := by decide +kernel
theorem dX6_init_82 : decode cX6_init 82 = .ok (.bipush 24, 2) := by decide +kernel
theorem dX6_init_84 : decode cX6_init 84 = .ok (.invokespecial 47, 3) := by decide +kernel
theorem dX6_init_87 : decode cX6_init 87 = .ok (.aastore, 1) := by decide +kernel
theorem dX6_init_88 : decode cX6_init 88 = .ok (.iinc 3 1, 3) := by decide +kernel
theorem dX6_init_91 : decode cX6_init 91 = .ok (.goto (-38), 3) := by decide +kernel
theorem dX6_init_94 : decode cX6_init 94 = .ok (.return_, 1) := by decide +kernel
theorem dX6_isTold_0 : decode cX6_isTold 0 = .ok (.iconst 0, 1) := by decide +kernel
theorem dX6_isTold_1 : decode cX6_isTold 1 = .ok (.istore_n 2, 1) := by decide +kernel
theorem dX6_isTold_2 : decode cX6_isTold 2 = .ok (.iload_n 2, 1) := by decide +kernel
theorem dX6_isTold_3 : decode cX6_isTold 3 = .ok (.aload_n 0, 1) := by decide +kernel
theorem dX6_isTold_4 : decode cX6_isTold 4 = .ok (.getfield 48, 3) := by decide +kernel
theorem dX6_isTold_7 : decode cX6_isTold 7 = .ok (.if_icmp .ge 21, 3) := by decide +kernel
theorem dX6_isTold_10 : decode cX6_isTold 10 = .ok (.aload_n 0, 1) := by decide +kernel
theorem dX6_isTold_11 : decode cX6_isTold 11 = .ok (.getfield 9, 3) := by decide +kernel
theorem dX6_isTold_14 : decode cX6_isTold 14 = .ok (.iload_n 2, 1) := by decide +kernel
theorem dX6_isTold_15 : decode cX6_isTold 15 = .ok (.iaload, 1) := by decide +kernel
theorem dX6_isTold_16 : decode cX6_isTold 16 = .ok (.iload_n 1, 1) := by decide +kernel
theorem dX6_isTold_17 : decode cX6_isTold 17 = .ok (.if_icmp .ne 5, 3) := by decide +kernel
theorem dX6_isTold_20 : decode cX6_isTold 20 = .ok (.iconst 1, 1) := by decide +kernel
theorem dX6_isTold_21 : decode cX6_isTold 21 = .ok (.ireturn, 1) := by decide +kernel
theorem dX6_isTold_22 : decode cX6_isTold 22 = .ok (.iinc 2 1, 3) := by decide +kernel
theorem dX6_isTold_25 : decode cX6_isTold 25 = .ok (.goto (-23), 3) := by decide +kernel
theorem dX6_isTold_28 : decode cX6_isTold 28 = .ok (.iconst 0, 1) := by decide +kernel
theorem dX6_isTold_29 : decode cX6_isTold 29 = .ok (.ireturn, 1) := by decide +kernel
set_option maxRecDepth 20000 in
theorem ggX6_append_X7_copyFrom : GoodIn wsX6_append wsX7_copyFrom := goodIn_r _ [8, 9, 10, 11, 12, 13, 14, 24, 25] (by decide +kernel) (by decide +kernel)
set_option maxRecDepth 20000 in
theorem gX6_append_X7_copyFrom : GoodIn wsX6_append (wsV RX6 52 RX7 yX7_copyFrom wsX7_copyFrom) := goodIn_app (goodIn_of _ (by decide +kernel)) ggX6_append_X7_copyFrom
theorem dX6_append_0 : decode cX6_append 0 = .ok (.aload_n 0, 1) := by decide +kernel
theorem dX6_append_1 : decode cX6_append 1 = .ok (.getfield 48, 3) := by decide +kernel
theorem dX6_append_4 : decode cX6_append 4 = .ok (.iconst 3, 1) := by decide +kernel
theorem dX6_append_5 : decode cX6_append 5 = .ok (.if_icmp .lt 5, 3) := by decide +kernel
theorem dX6_append_8 : decode cX6_append 8 = .ok (.iconst 0, 1) := by decide +kernel
theorem dX6_append_9 : decode cX6_append 9 = .ok (.ireturn, 1) := by decide +kernel
theorem dX6_append_10 : decode cX6_append 10 = .ok (.aload_n 0, 1) := by decide +kernel
theorem dX6_append_11 : decode cX6_append 11 = .ok (.getfield 9, 3) := by decide +kernel
theorem dX6_append_14 : decode cX6_append 14 = .ok (.aload_n 0, 1) := by decide +kernel
theorem dX6_append_15 : decode cX6_append 15 = .ok (.getfield 48, 3) := by decide +kernel
theorem dX6_append_18 : decode cX6_append 18 = .ok (.iload_n 1, 1) := by decide +kernel
theorem dX6_append_19 : decode cX6_append 19 = .ok (.iastore, 1) := by decide +kernel
theorem dX6_append_20 : decode cX6_append 20 = .ok (.aload_n 0, 1) := by decide +kernel
theorem dX6_append_21 : decode cX6_append 21 = .ok (.getfield 17, 3) := by decide +kernel
theorem dX6_append_24 : decode cX6_append 24 = .ok (.aload_n 0, 1) := by decide +kernel
theorem dX6_append_25 : decode cX6_append 25 = .ok (.getfield 48, 3) := by decide +kernel
theorem dX6_append_28 : decode cX6_append 28 = .ok (.aaload, 1) := by decide +kernel
theorem dX6_append_29 : decode cX6_append 29 = .ok (.aload_n 2, 1) := by decide +kernel
theorem dX6_append_30 : decode cX6_append 30 = .ok (.invokevirtual 52, 3) := by decide +kernel
theorem dX6_append_33 : decode cX6_append 33 = .ok (.aload_n 0, 1) := by decide +kernel
theorem dX6_append_34 : decode cX6_append 34 = .ok (.dup, 1) := by decide +kernel
theorem dX6_append_35 : decode cX6_append 35 = .ok (.getfield 48, 3) := by decide +kernel
theorem dX6_append_38 : decode cX6_append 38 = .ok (.iconst 1, 1) := by decide +kernel
theorem dX6_append_39 : decode cX6_append 39 = .ok (.iadd, 1) := by decide +kernel
theorem dX6_append_40 : decode cX6_append 40 = .ok (.putfield 48, 3) := by decide +kernel
theorem dX6_append_43 : decode cX6_append 43 = .ok (.iconst 1, 1) := by decide +kernel
theorem dX6_append_44 : decode cX6_append 44 = .ok (.ireturn, 1) := by decide +kernel
set_option maxRecDepth 20000 in
theorem ggX6_search_X3_fillFrom : GoodIn wsX6_search wsX3_fillFrom := goodIn_r _ [20, 21, 22, 23, 24, 25, 26, 27, 28, 29, 30, 31, 32, 33, 34, 35, 36, 37, 38, 39, 19, 40, 41, 42, 43, 128, 129, 130, 131, 116, 117, 118, 119, 120, 121, 122, 123, 124, 125, 126, 127] (by decide +kernel) (by decide +kernel)
set_option maxRecDepth 20000 in
theorem gX6_search_X3_fillFrom : GoodIn wsX6_search (wsV RX6 56 RX3 yX3_fillFrom wsX3_fillFrom) := goodIn_app (goodIn_of _ (by decide +kernel)) ggX6_search_X3_fillFrom
set_option maxRecDepth 20000 in
theorem ggX6_search_X6_isAllSoBy : GoodIn wsX6_search wsX6_isAllSoBy := goodIn_r _ [48, 1, 4, 5, 49, 27, 28, 29, 30, 31, 32, 33, 34, 35, 36, 50, 51, 52, 47, 53, 54, 3, 8, 2, 55, 56, 57, 58, 59, 60, 61, 62, 63, 64, 65, 66, 67, 68, 69, 70, 71, 72, 19, 73, 41, 43, 74, 75, 76, 77, 78, 79, 80, 81, 82, 83, 84, 85, 86, 87, 88, 89, 90, 91, 92, 93, 94, 95, 96, 97, 98, 99, 100, 101, 102, 103, 104, 105, 106, 107, 108, 109, 110, 111, 112, 113, 114, 115, 121, 122, 123, 124, 125, 126, 127, 116, 117, 118, 119, 120, 132, 133, 134, 135, 136, 137, 128, 129, 130, 131, 138, 139] (by decide +kernel) (by decide +kernel)
set_option maxRecDepth 20000 in
theorem gX6_search_X6_isAllSoBy : GoodIn wsX6_search (wsV RX6 85 RX6 yX6_isAllSoBy wsX6_isAllSoBy) := goodIn_app (goodIn_of _ (by decide +kernel)) ggX6_search_X6_isAllSoBy
theorem dX6_search_0 : decode cX6_search 0 = .ok (.iconst 0, 1) := by decide +kernel
theorem dX6_search_1 : decode cX6_search 1 = .ok (.istore_n 1, 1) := by decide +kernel
theorem dX6_search_2 : decode cX6_search 2 = .ok (.iload_n 1, 1) := by decide +kernel
theorem dX6_search_3 : decode cX6_search 3 = .ok (.aload_n 0, 1) := by decide +kernel
theorem dX6_search_4 : decode cX6_search 4 = .ok (.getfield 48, 3) := by decide +kernel
theorem dX6_search_7 : decode cX6_search 7 = .ok (.if_icmp .ge 32, 3) := by decide +kernel
theorem dX6_search_10 : decode cX6_search 10 = .ok (.aload_n 0, 1) := by decide +kernel
theorem dX6_search_11 : decode cX6_search 11 = .ok (.getfield 23, 3) := by decide +kernel
theorem dX6_search_14 : decode cX6_search 14 = .ok (.iload_n 1, 1) := by decide +kernel
theorem dX6_search_15 : decode cX6_search 15 = .ok (.aaload, 1) := by decide +kernel
theorem dX6_search_16 : decode cX6_search 16 = .ok (.aload_n 0, 1) := by decide +kernel
theorem dX6_search_17 : decode cX6_search 17 = .ok (.getfield 31, 3) := by decide +kernel
theorem dX6_search_20 : decode cX6_search 20 = .ok (.aload_n 0, 1) := by decide +kernel
theorem dX6_search_21 : decode cX6_search 21 = .ok (.getfield 27, 3) := by decide +kernel
theorem dX6_search_24 : decode cX6_search 24 = .ok (.aload_n 0, 1) := by decide +kernel
theorem dX6_search_25 : decode cX6_search 25 = .ok (.getfield 9, 3) := by decide +kernel
theorem dX6_search_28 : decode cX6_search 28 = .ok (.iload_n 1, 1) := by decide +kernel
theorem dX6_search_29 : decode cX6_search 29 = .ok (.iaload, 1) := by decide +kernel
theorem dX6_search_30 : decode cX6_search 30 = .ok (.invokevirtual 56, 3) := by decide +kernel
theorem dX6_search_33 : decode cX6_search 33 = .ok (.iinc 1 1, 3) := by decide +kernel
theorem dX6_search_36 : decode cX6_search 36 = .ok (.goto (-34), 3) := by decide +kernel
theorem dX6_search_39 : decode cX6_search 39 = .ok (.aload_n 0, 1) := by decide +kernel
theorem dX6_search_40 : decode cX6_search 40 = .ok (.iconst 0, 1) := by decide +kernel
theorem dX6_search_41 : decode cX6_search 41 = .ok (.putfield 60, 3) := by decide +kernel
theorem dX6_search_44 : decode cX6_search 44 = .ok (.aload_n 0, 1) := by decide +kernel
theorem dX6_search_45 : decode cX6_search 45 = .ok (.bipush (-4), 2) := by decide +kernel
theorem dX6_search_47 : decode cX6_search 47 = .ok (.putfield 63, 3) := by decide +kernel
theorem dX6_search_50 : decode cX6_search 50 = .ok (.iconst 0, 1) := by decide +kernel
theorem dX6_search_51 : decode cX6_search 51 = .ok (.aload_n 0, 1) := by decide +kernel
theorem dX6_search_52 : decode cX6_search 52 = .ok (.getfield 31, 3) := by decide +kernel
theorem dX6_search_55 : decode cX6_search 55 = .ok (.getfield 66, 3) := by decide +kernel
theorem dX6_search_58 : decode cX6_search 58 = .ok (.bipush 100, 2) := by decide +kernel
theorem dX6_search_60 : decode cX6_search 60 = .ok (.isub, 1) := by decide +kernel
theorem dX6_search_61 : decode cX6_search 61 = .ok (.iconst 1, 1) := by decide +kernel
theorem dX6_search_62 : decode cX6_search 62 = .ok (.iadd, 1) := by decide +kernel
theorem dX6_search_63 : decode cX6_search 63 = .ok (.invokestatic 71, 3) := by decide +kernel
theorem dX6_search_66 : decode cX6_search 66 = .ok (.istore_n 1, 1) := by decide +kernel
theorem dX6_search_67 : decode cX6_search 67 = .ok (.iconst 0, 1) := by decide +kernel
theorem dX6_search_68 : decode cX6_search 68 = .ok (.istore_n 2, 1) := by decide +kernel
theorem dX6_search_69 : decode cX6_search 69 = .ok (.iload_n 2, 1) := by decide +kernel
theorem dX6_search_70 : decode cX6_search 70 = .ok (.aload_n 0, 1) := by decide +kernel
theorem dX6_search_71 : decode cX6_search 71 = .ok (.getfield 27, 3) := by decide +kernel
theorem dX6_search_74 : decode cX6_search 74 = .ok (.getfield 77, 3) := by decide +kernel
theorem dX6_search_77 : decode cX6_search 77 = .ok (.if_icmp .ge 101, 3) := by decide +kernel
theorem dX6_search_80 : decode cX6_search 80 = .ok (.iconst 0, 1) := by decide +kernel
theorem dX6_search_81 : decode cX6_search 81 = .ok (.istore_n 3, 1) := by decide +kernel
theorem dX6_search_82 : decode cX6_search 82 = .ok (.iload_n 3, 1) := by decide +kernel
theorem dX6_search_83 : decode cX6_search 83 = .ok (.aload_n 0, 1) := by decide +kernel
theorem dX6_search_84 : decode cX6_search 84 = .ok (.getfield 27, 3) := by decide +kernel
theorem dX6_search_87 : decode cX6_search 87 = .ok (.getfield 82, 3) := by decide +kernel
theorem dX6_search_90 : decode cX6_search 90 = .ok (.if_icmp .ge 82, 3) := by decide +kernel
theorem dX6_search_93 : decode cX6_search 93 = .ok (.iload_n 1, 1) := by decide +kernel
theorem dX6_search_94 : decode cX6_search 94 = .ok (.istore 4, 2) := by decide +kernel
theorem dX6_search_96 : decode cX6_search 96 = .ok (.iload 4, 2) := by decide +kernel
theorem dX6_search_98 : decode cX6_search 98 = .ok (.aload_n 0, 1) := by decide +kernel
theorem dX6_search_99 : decode cX6_search 99 = .ok (.getfield 31, 3) := by decide +kernel
theorem dX6_search_102 : decode cX6_search 102 = .ok (.getfield 66, 3) := by decide +kernel
theorem dX6_search_105 : decode cX6_search 105 = .ok (.if_icmp .gt 61, 3) := by decide +kernel
theorem dX6_search_108 : decode cX6_search 108 = .ok (.aload_n 0, 1) := by decide +kernel
theorem dX6_search_109 : decode cX6_search 109 = .ok (.iload_n 2, 1) := by decide +kernel
theorem dX6_search_110 : decode cX6_search 110 = .ok (.iload_n 3, 1) := by decide +kernel
theorem dX6_search_111 : decode cX6_search 111 = .ok (.iload 4, 2) := by decide +kernel
theorem dX6_search_113 : decode cX6_search 113 = .ok (.invokevirtual 85, 3) := by decide +kernel
theorem dX6_search_116 : decode cX6_search 116 = .ok (.ifCond .eq 44, 3) := by decide +kernel
theorem dX6_search_119 : decode cX6_search 119 = .ok (.aload_n 0, 1) := by decide +kernel
theorem dX6_search_120 : decode cX6_search 120 = .ok (.aload_n 0, 1) := by decide +kernel
theorem dX6_search_121 : decode cX6_search 121 = .ok (.getfield 60, 3) := by decide +kernel
theorem dX6_search_124 : decode cX6_search 124 = .ok (.ifCond .ne 19, 3) := by decide +kernel
theorem dX6_search_127 : decode cX6_search 127 = .ok (.ldc 89, 2) := by decide +kernel
theorem dX6_search_129 : decode cX6_search 129 = .ok (.iload_n 2, 1) := by decide +kernel
theorem dX6_search_130 : decode cX6_search 130 = .ok (.imul, 1) := by decide +kernel
theorem dX6_search_131 : decode cX6_search 131 = .ok (.sipush 10000, 3) := by decide +kernel
theorem dX6_search_134 : decode cX6_search 134 = .ok (.iload_n 3, 1) := by decide +kernel
theorem dX6_search_135 : decode cX6_search 135 = .ok (.imul, 1) := by decide +kernel
theorem dX6_search_136 : decode cX6_search 136 = .ok (.iadd, 1) := by decide +kernel
theorem dX6_search_137 : decode cX6_search 137 = .ok (.iload 4, 2) := by decide +kernel
theorem dX6_search_139 : decode cX6_search 139 = .ok (.iadd, 1) := by decide +kernel
theorem dX6_search_140 : decode cX6_search 140 = .ok (.goto 7, 3) := by decide +kernel
theorem dX6_search_143 : decode cX6_search 143 = .ok (.aload_n 0, 1) := by decide +kernel
theorem dX6_search_144 : decode cX6_search 144 = .ok (.getfield 63, 3) := by decide +kernel
theorem dX6_search_147 : decode cX6_search 147 = .ok (.putfield 63, 3) := by decide +kernel
theorem dX6_search_150 : decode cX6_search 150 = .ok (.aload_n 0, 1) := by decide +kernel
theorem dX6_search_151 : decode cX6_search 151 = .ok (.dup, 1) := by decide +kernel
theorem dX6_search_152 : decode cX6_search 152 = .ok (.getfield 60, 3) := by decide +kernel
theorem dX6_search_155 : decode cX6_search 155 = .ok (.iconst 1, 1) := by decide +kernel
theorem dX6_search_156 : decode cX6_search 156 = .ok (.iadd, 1) := by decide +kernel
theorem dX6_search_157 : decode cX6_search 157 = .ok (.putfield 60, 3) := by decide +kernel
theorem dX6_search_160 : decode cX6_search 160 = .ok (.iinc 4 1, 3) := by decide +kernel
theorem dX6_search_163 : decode cX6_search 163 = .ok (.goto (-67), 3) := by decide +kernel
theorem dX6_search_166 : decode cX6_search 166 = .ok (.iinc 3 1, 3) := by decide +kernel
theorem dX6_search_169 : decode cX6_search 169 = .ok (.goto (-87), 3) := by decide +kernel
theorem dX6_search_172 : decode cX6_search 172 = .ok (.iinc 2 1, 3) := by decide +kernel
theorem dX6_search_175 : decode cX6_search 175 = .ok (.goto (-106), 3) := by decide +kernel
theorem dX6_search_178 : decode cX6_search 178 = .ok (.return_, 1) := by decide +kernel
set_option maxRecDepth 20000 in
theorem ggX6_isAllSoBy_X2_minutesBetween : GoodIn wsX6_isAllSoBy wsX2_minutesBetween := goodIn_r _ [8, 9, 10, 11, 12, 7, 13, 14, 88, 89, 90, 91, 92, 93, 94] (by decide +kernel) (by decide +kernel)
set_option maxRecDepth 20000 in
theorem gX6_isAllSoBy_X2_minutesBetween : GoodIn wsX6_isAllSoBy (wsV RX6 90 RX2 yX2_minutesBetween wsX2_minutesBetween) := goodIn_app (goodIn_of _ (by decide +kernel)) ggX6_isAllSoBy_X2_minutesBetween
set_option maxRecDepth 20000 in
theorem ggX6_isAllSoBy_X6_isSoBy : GoodIn wsX6_isAllSoBy wsX6_isSoBy := goodIn_r _ [19, 20, 21, 22, 23, 24, 25, 26, 27, 28, 29, 30, 31, 32, 33, 34, 35, 36, 37, 38, 39, 40, 41, 42, 43, 44, 45, 46, 47, 48, 49, 50, 51, 52, 53, 54, 55, 56, 57, 58, 59, 60, 61, 62, 63, 64, 65, 66, 67, 68, 69, 70, 71, 72, 73, 74, 75, 76, 77, 78, 79, 80, 81, 82, 83, 84, 85, 86, 87, 95, 96, 97, 98, 99, 100, 101, 102, 103, 104, 105, 106, 107, 108, 109, 88, 89, 90, 91, 92, 93, 94, 110, 111] (by decide +kernel) (by decide +kernel)
set_option maxRecDepth 20000 in
theorem gX6_isAllSoBy_X6_isSoBy : GoodIn wsX6_isAllSoBy (wsV RX6 93 RX6 yX6_isSoBy wsX6_isSoBy) := goodIn_app (goodIn_of _ (by decide +kernel)) ggX6_isAllSoBy_X6_isSoBy
theorem dX6_isAllSoBy_0 : decode cX6_isAllSoBy 0 = .ok (.iconst 0, 1) := by decide +kernel
theorem dX6_isAllSoBy_1 : decode cX6_isAllSoBy 1 = .ok (.istore 4, 2) := by decide +kernel
theorem dX6_isAllSoBy_3 : decode cX6_isAllSoBy 3 = .ok (.iload 4, 2) := by decide +kernel
theorem dX6_isAllSoBy_5 : decode cX6_isAllSoBy 5 = .ok (.aload_n 0, 1) := by decide +kernel
theorem dX6_isAllSoBy_6 : decode cX6_isAllSoBy 6 = .ok (.getfield 48, 3) := by decide +kernel
theorem dX6_isAllSoBy_9 : decode cX6_isAllSoBy 9 = .ok (.if_icmp .ge 39, 3) := by decide +kernel
theorem dX6_isAllSoBy_12 : decode cX6_isAllSoBy 12 = .ok (.aload_n 0, 1) := by decide +kernel
theorem dX6_isAllSoBy_13 : decode cX6_isAllSoBy 13 = .ok (.iload 4, 2) := by decide +kernel
theorem dX6_isAllSoBy_15 : decode cX6_isAllSoBy 15 = .ok (.iload_n 2, 1) := by decide +kernel
theorem dX6_isAllSoBy_16 : decode cX6_isAllSoBy 16 = .ok (.iload_n 3, 1) := by decide +kernel
theorem dX6_isAllSoBy_17 : decode cX6_isAllSoBy 17 = .ok (.iload_n 3, 1) := by decide +kernel
theorem dX6_isAllSoBy_18 : decode cX6_isAllSoBy 18 = .ok (.aload_n 0, 1) := by decide +kernel
theorem dX6_isAllSoBy_19 : decode cX6_isAllSoBy 19 = .ok (.getfield 27, 3) := by decide +kernel
theorem dX6_isAllSoBy_22 : decode cX6_isAllSoBy 22 = .ok (.iload_n 1, 1) := by decide +kernel
theorem dX6_isAllSoBy_23 : decode cX6_isAllSoBy 23 = .ok (.aload_n 0, 1) := by decide +kernel
theorem dX6_isAllSoBy_24 : decode cX6_isAllSoBy 24 = .ok (.getfield 9, 3) := by decide +kernel
theorem dX6_isAllSoBy_27 : decode cX6_isAllSoBy 27 = .ok (.iload 4, 2) := by decide +kernel
theorem dX6_isAllSoBy_29 : decode cX6_isAllSoBy 29 = .ok (.iaload, 1) := by decide +kernel
theorem dX6_isAllSoBy_30 : decode cX6_isAllSoBy 30 = .ok (.invokevirtual 90, 3) := by decide +kernel
theorem dX6_isAllSoBy_33 : decode cX6_isAllSoBy 33 = .ok (.iadd, 1) := by decide +kernel
theorem dX6_isAllSoBy_34 : decode cX6_isAllSoBy 34 = .ok (.invokevirtual 93, 3) := by decide +kernel
theorem dX6_isAllSoBy_37 : decode cX6_isAllSoBy 37 = .ok (.ifCond .ne 5, 3) := by decide +kernel
theorem dX6_isAllSoBy_40 : decode cX6_isAllSoBy 40 = .ok (.iconst 0, 1) := by decide +kernel
theorem dX6_isAllSoBy_41 : decode cX6_isAllSoBy 41 = .ok (.ireturn, 1) := by decide +kernel
theorem dX6_isAllSoBy_42 : decode cX6_isAllSoBy 42 = .ok (.iinc 4 1, 3) := by decide +kernel
theorem dX6_isAllSoBy_45 : decode cX6_isAllSoBy 45 = .ok (.goto (-42), 3) := by decide +kernel
theorem dX6_isAllSoBy_48 : decode cX6_isAllSoBy 48 = .ok (.iconst 1, 1) := by decide +kernel
theorem dX6_isAllSoBy_49 : decode cX6_isAllSoBy 49 = .ok (.ireturn, 1) := by decide +kernel
set_option maxRecDepth 20000 in
theorem ggX6_isSoBy_X5_empty : GoodIn wsX6_isSoBy wsX5_empty := goodIn_r _ [10, 11, 12, 74, 75, 76, 77, 78, 79] (by decide +kernel) (by decide +kernel)
set_option maxRecDepth 20000 in
theorem gX6_isSoBy_X5_empty : GoodIn wsX6_isSoBy (wsV RX6 97 RX5 yX5_empty wsX5_empty) := goodIn_app (goodIn_of _ (by decide +kernel)) ggX6_isSoBy_X5_empty
set_option maxRecDepth 20000 in
theorem ggX6_isSoBy_X5_hearAhead : GoodIn wsX6_isSoBy wsX5_hearAhead := goodIn_r _ [16, 12, 17, 18, 19, 20, 21, 22, 23, 24, 25, 26, 27, 28, 29, 9, 30, 11, 31, 32, 33, 34, 35, 36, 37, 38, 39, 40, 41, 42, 43, 44, 74, 75, 76, 77, 78, 79, 80, 81, 82, 83, 84, 85, 86, 87, 88, 89, 90] (by decide +kernel) (by decide +kernel)
set_option maxRecDepth 20000 in
theorem gX6_isSoBy_X5_hearAhead : GoodIn wsX6_isSoBy (wsV RX6 100 RX5 yX5_hearAhead wsX5_hearAhead) := goodIn_app (goodIn_of _ (by decide +kernel)) ggX6_isSoBy_X5_hearAhead
set_option maxRecDepth 20000 in
theorem ggX6_isSoBy_X5_hear : GoodIn wsX6_isSoBy wsX5_hear := goodIn_r _ [30, 11, 31, 32, 33, 34, 35, 36, 9, 37, 38, 39, 40, 41, 42, 43, 44, 74, 75, 76, 77, 78, 79, 84, 85, 86, 87, 88, 89, 90] (by decide +kernel) (by decide +kernel)
set_option maxRecDepth 20000 in
theorem gX6_isSoBy_X5_hear : GoodIn wsX6_isSoBy (wsV RX6 104 RX5 yX5_hear wsX5_hear) := goodIn_app (goodIn_of _ (by decide +kernel)) ggX6_isSoBy_X5_hear
set_option maxRecDepth 20000 in
theorem ggX6_isSoBy_X5_hearTo : GoodIn wsX6_isSoBy wsX5_hearTo := goodIn_r _ [49, 12, 17, 19, 18, 27, 28, 29, 9, 30, 11, 31, 32, 33, 34, 35, 36, 37, 38, 39, 40, 41, 42, 43, 44, 74, 75, 76, 77, 78, 79, 80, 81, 82, 83, 84, 85, 86, 87, 88, 89, 90] (by decide +kernel) (by decide +kernel)
set_option maxRecDepth 20000 in
theorem gX6_isSoBy_X5_hearTo : GoodIn wsX6_isSoBy (wsV RX6 108 RX5 yX5_hearTo wsX5_hearTo) := goodIn_app (goodIn_of _ (by decide +kernel)) ggX6_isSoBy_X5_hearTo
set_option maxRecDepth 20000 in
theorem ggX6_isSoBy_X5_isJust : GoodIn wsX6_isSoBy wsX5_isJust := goodIn_r _ [53, 11, 54, 55, 56, 57, 9, 58, 31, 59, 74, 75, 76, 77, 78, 79, 91, 92] (by decide +kernel) (by decide +kernel)
set_option maxRecDepth 20000 in
theorem gX6_isSoBy_X5_isJust : GoodIn wsX6_isSoBy (wsV RX6 112 RX5 yX5_isJust wsX5_isJust) := goodIn_app (goodIn_of _ (by decide +kernel)) ggX6_isSoBy_X5_isJust
theorem dX6_isSoBy_0 : decode cX6_isSoBy 0 = .ok (.aload_n 0, 1) := by decide +kernel
theorem dX6_isSoBy_1 : decode cX6_isSoBy 1 = .ok (.getfield 40, 3) := by decide +kernel
theorem dX6_isSoBy_4 : decode cX6_isSoBy 4 = .ok (.invokevirtual 97, 3) := by decide +kernel
theorem dX6_isSoBy_7 : decode cX6_isSoBy 7 = .ok (.iload 4, 2) := by decide +kernel
theorem dX6_isSoBy_9 : decode cX6_isSoBy 9 = .ok (.aload_n 0, 1) := by decide +kernel
theorem dX6_isSoBy_10 : decode cX6_isSoBy 10 = .ok (.getfield 31, 3) := by decide +kernel
theorem dX6_isSoBy_13 : decode cX6_isSoBy 13 = .ok (.getfield 66, 3) := by decide +kernel
theorem dX6_isSoBy_16 : decode cX6_isSoBy 16 = .ok (.if_icmp .gt 30, 3) := by decide +kernel
theorem dX6_isSoBy_19 : decode cX6_isSoBy 19 = .ok (.aload_n 0, 1) := by decide +kernel
theorem dX6_isSoBy_20 : decode cX6_isSoBy 20 = .ok (.getfield 40, 3) := by decide +kernel
theorem dX6_isSoBy_23 : decode cX6_isSoBy 23 = .ok (.aload_n 0, 1) := by decide +kernel
theorem dX6_isSoBy_24 : decode cX6_isSoBy 24 = .ok (.getfield 23, 3) := by decide +kernel
theorem dX6_isSoBy_27 : decode cX6_isSoBy 27 = .ok (.iload_n 1, 1) := by decide +kernel
theorem dX6_isSoBy_28 : decode cX6_isSoBy 28 = .ok (.aaload, 1) := by decide +kernel
theorem dX6_isSoBy_29 : decode cX6_isSoBy 29 = .ok (.iload_n 3, 1) := by decide +kernel
theorem dX6_isSoBy_30 : decode cX6_isSoBy 30 = .ok (.iload 4, 2) := by decide +kernel
theorem dX6_isSoBy_32 : decode cX6_isSoBy 32 = .ok (.invokevirtual 100, 3) := by decide +kernel
theorem dX6_isSoBy_35 : decode cX6_isSoBy 35 = .ok (.aload_n 0, 1) := by decide +kernel
theorem dX6_isSoBy_36 : decode cX6_isSoBy 36 = .ok (.getfield 40, 3) := by decide +kernel
theorem dX6_isSoBy_39 : decode cX6_isSoBy 39 = .ok (.iload_n 2, 1) := by decide +kernel
theorem dX6_isSoBy_40 : decode cX6_isSoBy 40 = .ok (.iload 4, 2) := by decide +kernel
theorem dX6_isSoBy_42 : decode cX6_isSoBy 42 = .ok (.iconst (-1), 1) := by decide +kernel
theorem dX6_isSoBy_43 : decode cX6_isSoBy 43 = .ok (.invokevirtual 104, 3) := by decide +kernel
theorem dX6_isSoBy_46 : decode cX6_isSoBy 46 = .ok (.aload_n 0, 1) := by decide +kernel
theorem dX6_isSoBy_47 : decode cX6_isSoBy 47 = .ok (.getfield 40, 3) := by decide +kernel
theorem dX6_isSoBy_50 : decode cX6_isSoBy 50 = .ok (.aload_n 0, 1) := by decide +kernel
theorem dX6_isSoBy_51 : decode cX6_isSoBy 51 = .ok (.getfield 23, 3) := by decide +kernel
theorem dX6_isSoBy_54 : decode cX6_isSoBy 54 = .ok (.iload_n 1, 1) := by decide +kernel
theorem dX6_isSoBy_55 : decode cX6_isSoBy 55 = .ok (.aaload, 1) := by decide +kernel
theorem dX6_isSoBy_56 : decode cX6_isSoBy 56 = .ok (.aload_n 0, 1) := by decide +kernel
theorem dX6_isSoBy_57 : decode cX6_isSoBy 57 = .ok (.getfield 31, 3) := by decide +kernel
theorem dX6_isSoBy_60 : decode cX6_isSoBy 60 = .ok (.getfield 66, 3) := by decide +kernel
theorem dX6_isSoBy_63 : decode cX6_isSoBy 63 = .ok (.invokevirtual 108, 3) := by decide +kernel
theorem dX6_isSoBy_66 : decode cX6_isSoBy 66 = .ok (.aload_n 0, 1) := by decide +kernel
theorem dX6_isSoBy_67 : decode cX6_isSoBy 67 = .ok (.getfield 40, 3) := by decide +kernel
theorem dX6_isSoBy_70 : decode cX6_isSoBy 70 = .ok (.aload_n 0, 1) := by decide +kernel
theorem dX6_isSoBy_71 : decode cX6_isSoBy 71 = .ok (.getfield 17, 3) := by decide +kernel
theorem dX6_isSoBy_74 : decode cX6_isSoBy 74 = .ok (.iload_n 1, 1) := by decide +kernel
theorem dX6_isSoBy_75 : decode cX6_isSoBy 75 = .ok (.aaload, 1) := by decide +kernel
theorem dX6_isSoBy_76 : decode cX6_isSoBy 76 = .ok (.invokevirtual 112, 3) := by decide +kernel
theorem dX6_isSoBy_79 : decode cX6_isSoBy 79 = .ok (.ireturn, 1) := by decide +kernel
theorem dX7_init_0 : decode cX7_init 0 = .ok (.aload_n 0, 1) := by decide +kernel
theorem dX7_init_1 : decode cX7_init 1 = .ok (.invokespecial 1, 3) := by decide +kernel
theorem dX7_init_4 : decode cX7_init 4 = .ok (.aload_n 0, 1) := by decide +kernel
theorem dX7_init_5 : decode cX7_init 5 = .ok (.iload_n 1, 1) := by decide +kernel
theorem dX7_init_6 : decode cX7_init 6 = .ok (.newarray .int, 2) := by decide +kernel
theorem dX7_init_8 : decode cX7_init 8 = .ok (.putfield 7, 3) := by decide +kernel
theorem dX7_init_11 : decode cX7_init 11 = .ok (.return_, 1) := by decide +kernel
theorem dX7_append_0 : decode cX7_append 0 = .ok (.aload_n 0, 1) := by decide +kernel
theorem dX7_append_1 : decode cX7_append 1 = .ok (.getfield 13, 3) := by decide +kernel
theorem dX7_append_4 : decode cX7_append 4 = .ok (.aload_n 0, 1) := by decide +kernel
theorem dX7_append_5 : decode cX7_append 5 = .ok (.getfield 7, 3) := by decide +kernel
theorem dX7_append_8 : decode cX7_append 8 = .ok (.arraylength, 1) := by decide +kernel
theorem dX7_append_9 : decode cX7_append 9 = .ok (.if_icmp .lt 5, 3) := by decide +kernel
theorem dX7_append_12 : decode cX7_append 12 = .ok (.iconst 0, 1) := by decide +kernel
theorem dX7_append_13 : decode cX7_append 13 = .ok (.ireturn, 1) := by decide +kernel
theorem dX7_append_14 : decode cX7_append 14 = .ok (.aload_n 0, 1) := by decide +kernel
theorem dX7_append_15 : decode cX7_append 15 = .ok (.getfield 7, 3) := by decide +kernel
theorem dX7_append_18 : decode cX7_append 18 = .ok (.aload_n 0, 1) := by decide +kernel
theorem dX7_append_19 : decode cX7_append 19 = .ok (.getfield 13, 3) := by decide +kernel
theorem dX7_append_22 : decode cX7_append 22 = .ok (.iload_n 1, 1) := by decide +kernel
theorem dX7_append_23 : decode cX7_append 23 = .ok (.iastore, 1) := by decide +kernel
theorem dX7_append_24 : decode cX7_append 24 = .ok (.aload_n 0, 1) := by decide +kernel
theorem dX7_append_25 : decode cX7_append 25 = .ok (.dup, 1) := by decide +kernel
theorem dX7_append_26 : decode cX7_append 26 = .ok (.getfield 13, 3) := by decide +kernel
theorem dX7_append_29 : decode cX7_append 29 = .ok (.iconst 1, 1) := by decide +kernel
theorem dX7_append_30 : decode cX7_append 30 = .ok (.iadd, 1) := by decide +kernel
theorem dX7_append_31 : decode cX7_append 31 = .ok (.putfield 13, 3) := by decide +kernel
theorem dX7_append_34 : decode cX7_append 34 = .ok (.iconst 1, 1) := by decide +kernel
theorem dX7_append_35 : decode cX7_append 35 = .ok (.ireturn, 1) := by decide +kernel
theorem dX7_copyFrom_0 : decode cX7_copyFrom 0 = .ok (.aload_n 0, 1) := by decide +kernel
theorem dX7_copyFrom_1 : decode cX7_copyFrom 1 = .ok (.aload_n 1, 1) := by decide +kernel
theorem dX7_copyFrom_2 : decode cX7_copyFrom 2 = .ok (.getfield 13, 3) := by decide +kernel
theorem dX7_copyFrom_5 : decode cX7_copyFrom 5 = .ok (.aload_n 0, 1) := by decide +kernel
theorem dX7_copyFrom_6 : decode cX7_copyFrom 6 = .ok (.getfield 7, 3) := by decide +kernel
theorem dX7_copyFrom_9 : decode cX7_copyFrom 9 = .ok (.arraylength, 1) := by decide +kernel
theorem dX7_copyFrom_10 : decode cX7_copyFrom 10 = .ok (.invokestatic 17, 3) := by decide +kernel
theorem dX7_copyFrom_13 : decode cX7_copyFrom 13 = .ok (.putfield 13, 3) := by decide +kernel
theorem dX7_copyFrom_16 : decode cX7_copyFrom 16 = .ok (.iconst 0, 1) := by decide +kernel
theorem dX7_copyFrom_17 : decode cX7_copyFrom 17 = .ok (.istore_n 2, 1) := by decide +kernel
theorem dX7_copyFrom_18 : decode cX7_copyFrom 18 = .ok (.iload_n 2, 1) := by decide +kernel
theorem dX7_copyFrom_19 : decode cX7_copyFrom 19 = .ok (.aload_n 0, 1) := by decide +kernel
theorem dX7_copyFrom_20 : decode cX7_copyFrom 20 = .ok (.getfield 13, 3) := by decide +kernel
theorem dX7_copyFrom_23 : decode cX7_copyFrom 23 = .ok (.if_icmp .ge 21, 3) := by decide +kernel
theorem dX7_copyFrom_26 : decode cX7_copyFrom 26 = .ok (.aload_n 0, 1) := by decide +kernel
theorem dX7_copyFrom_27 : decode cX7_copyFrom 27 = .ok (.getfield 7, 3) := by decide +kernel
theorem dX7_copyFrom_30 : decode cX7_copyFrom 30 = .ok (.iload_n 2, 1) := by decide +kernel
theorem dX7_copyFrom_31 : decode cX7_copyFrom 31 = .ok (.aload_n 1, 1) := by decide +kernel
theorem dX7_copyFrom_32 : decode cX7_copyFrom 32 = .ok (.getfield 7, 3) := by decide +kernel
theorem dX7_copyFrom_35 : decode cX7_copyFrom 35 = .ok (.iload_n 2, 1) := by decide +kernel
theorem dX7_copyFrom_36 : decode cX7_copyFrom 36 = .ok (.iaload, 1) := by decide +kernel
theorem dX7_copyFrom_37 : decode cX7_copyFrom 37 = .ok (.iastore, 1) := by decide +kernel
theorem dX7_copyFrom_38 : decode cX7_copyFrom 38 = .ok (.iinc 2 1, 3) := by decide +kernel
theorem dX7_copyFrom_41 : decode cX7_copyFrom 41 = .ok (.goto (-23), 3) := by decide +kernel
theorem dX7_copyFrom_44 : decode cX7_copyFrom 44 = .ok (.return_, 1) := by decide +kernel
theorem dX7_sameAs_0 : decode cX7_sameAs 0 = .ok (.aload_n 0, 1) := by decide +kernel
theorem dX7_sameAs_1 : decode cX7_sameAs 1 = .ok (.getfield 13, 3) := by decide +kernel
theorem dX7_sameAs_4 : decode cX7_sameAs 4 = .ok (.aload_n 1, 1) := by decide +kernel
theorem dX7_sameAs_5 : decode cX7_sameAs 5 = .ok (.getfield 13, 3) := by decide +kernel
theorem dX7_sameAs_8 : decode cX7_sameAs 8 = .ok (.if_icmp .eq 5, 3) := by decide +kernel
theorem dX7_sameAs_11 : decode cX7_sameAs 11 = .ok (.iconst 0, 1) := by decide +kernel
theorem dX7_sameAs_12 : decode cX7_sameAs 12 = .ok (.ireturn, 1) := by decide +kernel
theorem dX7_sameAs_13 : decode cX7_sameAs 13 = .ok (.iconst 0, 1) := by decide +kernel
theorem dX7_sameAs_14 : decode cX7_sameAs 14 = .ok (.istore_n 2, 1) := by decide +kernel
theorem dX7_sameAs_15 : decode cX7_sameAs 15 = .ok (.iload_n 2, 1) := by decide +kernel
theorem dX7_sameAs_16 : decode cX7_sameAs 16 = .ok (.aload_n 0, 1) := by decide +kernel
theorem dX7_sameAs_17 : decode cX7_sameAs 17 = .ok (.getfield 13, 3) := by decide +kernel
theorem dX7_sameAs_20 : decode cX7_sameAs 20 = .ok (.if_icmp .ge 26, 3) := by decide +kernel
theorem dX7_sameAs_23 : decode cX7_sameAs 23 = .ok (.aload_n 0, 1) := by decide +kernel
theorem dX7_sameAs_24 : decode cX7_sameAs 24 = .ok (.getfield 7, 3) := by decide +kernel
theorem dX7_sameAs_27 : decode cX7_sameAs 27 = .ok (.iload_n 2, 1) := by decide +kernel
theorem dX7_sameAs_28 : decode cX7_sameAs 28 = .ok (.iaload, 1) := by decide +kernel
theorem dX7_sameAs_29 : decode cX7_sameAs 29 = .ok (.aload_n 1, 1) := by decide +kernel
theorem dX7_sameAs_30 : decode cX7_sameAs 30 = .ok (.getfield 7, 3) := by decide +kernel
theorem dX7_sameAs_33 : decode cX7_sameAs 33 = .ok (.iload_n 2, 1) := by decide +kernel
theorem dX7_sameAs_34 : decode cX7_sameAs 34 = .ok (.iaload, 1) := by decide +kernel
theorem dX7_sameAs_35 : decode cX7_sameAs 35 = .ok (.if_icmp .eq 5, 3) := by decide +kernel
theorem dX7_sameAs_38 : decode cX7_sameAs 38 = .ok (.iconst 0, 1) := by decide +kernel
theorem dX7_sameAs_39 : decode cX7_sameAs 39 = .ok (.ireturn, 1) := by decide +kernel
theorem dX7_sameAs_40 : decode cX7_sameAs 40 = .ok (.iinc 2 1, 3) := by decide +kernel
theorem dX7_sameAs_43 : decode cX7_sameAs 43 = .ok (.goto (-28), 3) := by decide +kernel
theorem dX7_sameAs_46 : decode cX7_sameAs 46 = .ok (.iconst 1, 1) := by decide +kernel
theorem dX7_sameAs_47 : decode cX7_sameAs 47 = .ok (.ireturn, 1) := by decide +kernel
theorem dX7_isLessOne_0 : decode cX7_isLessOne 0 = .ok (.aload_n 0, 1) := by decide +kernel
theorem dX7_isLessOne_1 : decode cX7_isLessOne 1 = .ok (.getfield 13, 3) := by decide +kernel
theorem dX7_isLessOne_4 : decode cX7_isLessOne 4 = .ok (.iconst 1, 1) := by decide +kernel
theorem dX7_isLessOne_5 : decode cX7_isLessOne 5 = .ok (.iadd, 1) := by decide +kernel
theorem dX7_isLessOne_6 : decode cX7_isLessOne 6 = .ok (.aload_n 1, 1) := by decide +kernel
theorem dX7_isLessOne_7 : decode cX7_isLessOne 7 = .ok (.getfield 13, 3) := by decide +kernel
theorem dX7_isLessOne_10 : decode cX7_isLessOne 10 = .ok (.if_icmp .eq 5, 3) := by decide +kernel
theorem dX7_isLessOne_13 : decode cX7_isLessOne 13 = .ok (.iconst 0, 1) := by decide +kernel
theorem dX7_isLessOne_14 : decode cX7_isLessOne 14 = .ok (.ireturn, 1) := by decide +kernel
theorem dX7_isLessOne_15 : decode cX7_isLessOne 15 = .ok (.iconst 0, 1) := by decide +kernel
theorem dX7_isLessOne_16 : decode cX7_isLessOne 16 = .ok (.istore_n 2, 1) := by decide +kernel
theorem dX7_isLessOne_17 : decode cX7_isLessOne 17 = .ok (.iload_n 2, 1) := by decide +kernel
theorem dX7_isLessOne_18 : decode cX7_isLessOne 18 = .ok (.aload_n 0, 1) := by decide +kernel
theorem dX7_isLessOne_19 : decode cX7_isLessOne 19 = .ok (.getfield 13, 3) := by decide +kernel
theorem dX7_isLessOne_22 : decode cX7_isLessOne 22 = .ok (.if_icmp .ge 24, 3) := by decide +kernel
theorem dX7_isLessOne_25 : decode cX7_isLessOne 25 = .ok (.aload_n 0, 1) := by decide +kernel
theorem dX7_isLessOne_26 : decode cX7_isLessOne 26 = .ok (.getfield 7, 3) := by decide +kernel
theorem dX7_isLessOne_29 : decode cX7_isLessOne 29 = .ok (.iload_n 2, 1) := by decide +kernel
theorem dX7_isLessOne_30 : decode cX7_isLessOne 30 = .ok (.iaload, 1) := by decide +kernel
theorem dX7_isLessOne_31 : decode cX7_isLessOne 31 = .ok (.aload_n 1, 1) := by decide +kernel
theorem dX7_isLessOne_32 : decode cX7_isLessOne 32 = .ok (.getfield 7, 3) := by decide +kernel
theorem dX7_isLessOne_35 : decode cX7_isLessOne 35 = .ok (.iload_n 2, 1) := by decide +kernel
theorem dX7_isLessOne_36 : decode cX7_isLessOne 36 = .ok (.iaload, 1) := by decide +kernel
theorem dX7_isLessOne_37 : decode cX7_isLessOne 37 = .ok (.if_icmp .ne 9, 3) := by decide +kernel
theorem dX7_isLessOne_40 : decode cX7_isLessOne 40 = .ok (.iinc 2 1, 3) := by decide +kernel
theorem dX7_isLessOne_43 : decode cX7_isLessOne 43 = .ok (.goto (-26), 3) := by decide +kernel
theorem dX7_isLessOne_46 : decode cX7_isLessOne 46 = .ok (.iload_n 2, 1) := by decide +kernel
theorem dX7_isLessOne_47 : decode cX7_isLessOne 47 = .ok (.istore_n 3, 1) := by decide +kernel
theorem dX7_isLessOne_48 : decode cX7_isLessOne 48 = .ok (.iload_n 3, 1) := by decide +kernel
theorem dX7_isLessOne_49 : decode cX7_isLessOne 49 = .ok (.aload_n 0, 1) := by decide +kernel
theorem dX7_isLessOne_50 : decode cX7_isLessOne 50 = .ok (.getfield 13, 3) := by decide +kernel
theorem dX7_isLessOne_53 : decode cX7_isLessOne 53 = .ok (.if_icmp .ge 28, 3) := by decide +kernel
theorem dX7_isLessOne_56 : decode cX7_isLessOne 56 = .ok (.aload_n 0, 1) := by decide +kernel
theorem dX7_isLessOne_57 : decode cX7_isLessOne 57 = .ok (.getfield 7, 3) := by decide +kernel
theorem dX7_isLessOne_60 : decode cX7_isLessOne 60 = .ok (.iload_n 3, 1) := by decide +kernel
theorem dX7_isLessOne_61 : decode cX7_isLessOne 61 = .ok (.iaload, 1) := by decide +kernel
theorem dX7_isLessOne_62 : decode cX7_isLessOne 62 = .ok (.aload_n 1, 1) := by decide +kernel
theorem dX7_isLessOne_63 : decode cX7_isLessOne 63 = .ok (.getfield 7, 3) := by decide +kernel
theorem dX7_isLessOne_66 : decode cX7_isLessOne 66 = .ok (.iload_n 3, 1) := by decide +kernel
theorem dX7_isLessOne_67 : decode cX7_isLessOne 67 = .ok (.iconst 1, 1) := by decide +kernel
theorem dX7_isLessOne_68 : decode cX7_isLessOne 68 = .ok (.iadd, 1) := by decide +kernel
theorem dX7_isLessOne_69 : decode cX7_isLessOne 69 = .ok (.iaload, 1) := by decide +kernel
theorem dX7_isLessOne_70 : decode cX7_isLessOne 70 = .ok (.if_icmp .eq 5, 3) := by decide +kernel
theorem dX7_isLessOne_73 : decode cX7_isLessOne 73 = .ok (.iconst 0, 1) := by decide +kernel
theorem dX7_isLessOne_74 : decode cX7_isLessOne 74 = .ok (.ireturn, 1) := by decide +kernel
theorem dX7_isLessOne_75 : decode cX7_isLessOne 75 = .ok (.iinc 3 1, 3) := by decide +kernel
theorem dX7_isLessOne_78 : decode cX7_isLessOne 78 = .ok (.goto (-30), 3) := by decide +kernel
theorem dX7_isLessOne_81 : decode cX7_isLessOne 81 = .ok (.iconst 1, 1) := by decide +kernel
theorem dX7_isLessOne_82 : decode cX7_isLessOne 82 = .ok (.ireturn, 1) := by decide +kernel
theorem dX8_init_0 : decode cX8_init 0 = .ok (.aload_n 0, 1) := by decide +kernel
theorem dX8_init_1 : decode cX8_init 1 = .ok (.invokespecial 3, 3) := by decide +kernel
theorem dX8_init_4 : decode cX8_init 4 = .ok (.aload_n 0, 1) := by decide +kernel
theorem dX8_init_5 : decode cX8_init 5 = .ok (.bipush 8, 2) := by decide +kernel
theorem dX8_init_7 : decode cX8_init 7 = .ok (.newarray .int, 2) := by decide +kernel
theorem dX8_init_9 : decode cX8_init 9 = .ok (.putfield 9, 3) := by decide +kernel
theorem dX8_init_12 : decode cX8_init 12 = .ok (.return_, 1) := by decide +kernel
theorem dX8_append_0 : decode cX8_append 0 = .ok (.aload_n 0, 1) := by decide +kernel
theorem dX8_append_1 : decode cX8_append 1 = .ok (.getfield 15, 3) := by decide +kernel
theorem dX8_append_4 : decode cX8_append 4 = .ok (.bipush 8, 2) := by decide +kernel
theorem dX8_append_6 : decode cX8_append 6 = .ok (.if_icmp .lt 24, 3) := by decide +kernel
theorem dX8_append_9 : decode cX8_append 9 = .ok (.aload_n 0, 1) := by decide +kernel
theorem dX8_append_10 : decode cX8_append 10 = .ok (.getfield 9, 3) := by decide +kernel
theorem dX8_append_13 : decode cX8_append 13 = .ok (.iconst 1, 1) := by decide +kernel
theorem dX8_append_14 : decode cX8_append 14 = .ok (.aload_n 0, 1) := by decide +kernel
theorem dX8_append_15 : decode cX8_append 15 = .ok (.getfield 9, 3) := by decide +kernel
theorem dX8_append_18 : decode cX8_append 18 = .ok (.iconst 0, 1) := by decide +kernel
theorem dX8_append_19 : decode cX8_append 19 = .ok (.bipush 7, 2) := by decide +kernel
theorem dX8_append_21 : decode cX8_append 21 = .ok (.invokestatic 19, 3) := by decide +kernel
theorem dX8_append_24 : decode cX8_append 24 = .ok (.aload_n 0, 1) := by decide +kernel
theorem dX8_append_25 : decode cX8_append 25 = .ok (.bipush 7, 2) := by decide +kernel
theorem dX8_append_27 : decode cX8_append 27 = .ok (.putfield 15, 3) := by decide +kernel
theorem dX8_append_30 : decode cX8_append 30 = .ok (.aload_n 0, 1) := by decide +kernel
theorem dX8_append_31 : decode cX8_append 31 = .ok (.getfield 9, 3) := by decide +kernel
theorem dX8_append_34 : decode cX8_append 34 = .ok (.aload_n 0, 1) := by decide +kernel
theorem dX8_append_35 : decode cX8_append 35 = .ok (.getfield 15, 3) := by decide +kernel
theorem dX8_append_38 : decode cX8_append 38 = .ok (.iload_n 1, 1) := by decide +kernel
theorem dX8_append_39 : decode cX8_append 39 = .ok (.iastore, 1) := by decide +kernel
theorem dX8_append_40 : decode cX8_append 40 = .ok (.aload_n 0, 1) := by decide +kernel
theorem dX8_append_41 : decode cX8_append 41 = .ok (.dup, 1) := by decide +kernel
theorem dX8_append_42 : decode cX8_append 42 = .ok (.getfield 15, 3) := by decide +kernel
theorem dX8_append_45 : decode cX8_append 45 = .ok (.iconst 1, 1) := by decide +kernel
theorem dX8_append_46 : decode cX8_append 46 = .ok (.iadd, 1) := by decide +kernel
theorem dX8_append_47 : decode cX8_append 47 = .ok (.putfield 15, 3) := by decide +kernel
theorem dX8_append_50 : decode cX8_append 50 = .ok (.return_, 1) := by decide +kernel
theorem dX8_takeLatest_0 : decode cX8_takeLatest 0 = .ok (.aload_n 0, 1) := by decide +kernel
theorem dX8_takeLatest_1 : decode cX8_takeLatest 1 = .ok (.getfield 15, 3) := by decide +kernel
theorem dX8_takeLatest_4 : decode cX8_takeLatest 4 = .ok (.iconst 1, 1) := by decide +kernel
theorem dX8_takeLatest_5 : decode cX8_takeLatest 5 = .ok (.if_icmp .ge 5, 3) := by decide +kernel
theorem dX8_takeLatest_8 : decode cX8_takeLatest 8 = .ok (.iconst 0, 1) := by decide +kernel
theorem dX8_takeLatest_9 : decode cX8_takeLatest 9 = .ok (.ireturn, 1) := by decide +kernel
theorem dX8_takeLatest_10 : decode cX8_takeLatest 10 = .ok (.aload_n 0, 1) := by decide +kernel
theorem dX8_takeLatest_11 : decode cX8_takeLatest 11 = .ok (.dup, 1) := by decide +kernel
theorem dX8_takeLatest_12 : decode cX8_takeLatest 12 = .ok (.getfield 15, 3) := by decide +kernel
theorem dX8_takeLatest_15 : decode cX8_takeLatest 15 = .ok (.iconst 1, 1) := by decide +kernel
theorem dX8_takeLatest_16 : decode cX8_takeLatest 16 = .ok (.isub, 1) := by decide +kernel
theorem dX8_takeLatest_17 : decode cX8_takeLatest 17 = .ok (.putfield 15, 3) := by decide +kernel
theorem dX8_takeLatest_20 : decode cX8_takeLatest 20 = .ok (.aload_n 0, 1) := by decide +kernel
theorem dX8_takeLatest_21 : decode cX8_takeLatest 21 = .ok (.getfield 9, 3) := by decide +kernel
theorem dX8_takeLatest_24 : decode cX8_takeLatest 24 = .ok (.aload_n 0, 1) := by decide +kernel
theorem dX8_takeLatest_25 : decode cX8_takeLatest 25 = .ok (.getfield 15, 3) := by decide +kernel
theorem dX8_takeLatest_28 : decode cX8_takeLatest 28 = .ok (.iaload, 1) := by decide +kernel
theorem dX8_takeLatest_29 : decode cX8_takeLatest 29 = .ok (.ireturn, 1) := by decide +kernel
theorem dX9_init_0 : decode cX9_init 0 = .ok (.aload_n 0, 1) := by decide +kernel
theorem dX9_init_1 : decode cX9_init 1 = .ok (.invokespecial 3, 3) := by decide +kernel
theorem dX9_init_4 : decode cX9_init 4 = .ok (.aload_n 0, 1) := by decide +kernel
theorem dX9_init_5 : decode cX9_init 5 = .ok (.sipush 300, 3) := by decide +kernel
theorem dX9_init_8 : decode cX9_init 8 = .ok (.newarray .byte, 2) := by decide +kernel
theorem dX9_init_10 : decode cX9_init 10 = .ok (.putfield 9, 3) := by decide +kernel
theorem dX9_init_13 : decode cX9_init 13 = .ok (.return_, 1) := by decide +kernel
theorem dX9_append_0 : decode cX9_append 0 = .ok (.aload_n 0, 1) := by decide +kernel
theorem dX9_append_1 : decode cX9_append 1 = .ok (.getfield 15, 3) := by decide +kernel
theorem dX9_append_4 : decode cX9_append 4 = .ok (.iload_n 1, 1) := by decide +kernel
theorem dX9_append_5 : decode cX9_append 5 = .ok (.iadd, 1) := by decide +kernel
theorem dX9_append_6 : decode cX9_append 6 = .ok (.sipush 300, 3) := by decide +kernel
theorem dX9_append_9 : decode cX9_append 9 = .ok (.if_icmp .le 5, 3) := by decide +kernel
theorem dX9_append_12 : decode cX9_append 12 = .ok (.iconst 0, 1) := by decide +kernel
theorem dX9_append_13 : decode cX9_append 13 = .ok (.ireturn, 1) := by decide +kernel
theorem dX9_append_14 : decode cX9_append 14 = .ok (.iload_n 1, 1) := by decide +kernel
theorem dX9_append_15 : decode cX9_append 15 = .ok (.iconst 1, 1) := by decide +kernel
theorem dX9_append_16 : decode cX9_append 16 = .ok (.isub, 1) := by decide +kernel
theorem dX9_append_17 : decode cX9_append 17 = .ok (.istore 4, 2) := by decide +kernel
theorem dX9_append_19 : decode cX9_append 19 = .ok (.iload 4, 2) := by decide +kernel
theorem dX9_append_21 : decode cX9_append 21 = .ok (.ifCond .lt 37, 3) := by decide +kernel
theorem dX9_append_24 : decode cX9_append 24 = .ok (.aload_n 0, 1) := by decide +kernel
theorem dX9_append_25 : decode cX9_append 25 = .ok (.getfield 9, 3) := by decide +kernel
theorem dX9_append_28 : decode cX9_append 28 = .ok (.aload_n 0, 1) := by decide +kernel
theorem dX9_append_29 : decode cX9_append 29 = .ok (.getfield 15, 3) := by decide +kernel
theorem dX9_append_32 : decode cX9_append 32 = .ok (.lload_n 2, 1) := by decide +kernel
theorem dX9_append_33 : decode cX9_append 33 = .ok (.bipush 8, 2) := by decide +kernel
theorem dX9_append_35 : decode cX9_append 35 = .ok (.iload 4, 2) := by decide +kernel
theorem dX9_append_37 : decode cX9_append 37 = .ok (.imul, 1) := by decide +kernel
theorem dX9_append_38 : decode cX9_append 38 = .ok (.lushr, 1) := by decide +kernel
theorem dX9_append_39 : decode cX9_append 39 = .ok (.l2i, 1) := by decide +kernel
theorem dX9_append_40 : decode cX9_append 40 = .ok (.i2b, 1) := by decide +kernel
theorem dX9_append_41 : decode cX9_append 41 = .ok (.bastore, 1) := by decide +kernel
theorem dX9_append_42 : decode cX9_append 42 = .ok (.aload_n 0, 1) := by decide +kernel
theorem dX9_append_43 : decode cX9_append 43 = .ok (.dup, 1) := by decide +kernel
theorem dX9_append_44 : decode cX9_append 44 = .ok (.getfield 15, 3) := by decide +kernel
theorem dX9_append_47 : decode cX9_append 47 = .ok (.iconst 1, 1) := by decide +kernel
theorem dX9_append_48 : decode cX9_append 48 = .ok (.iadd, 1) := by decide +kernel
theorem dX9_append_49 : decode cX9_append 49 = .ok (.putfield 15, 3) := by decide +kernel
theorem dX9_append_52 : decode cX9_append 52 = .ok (.iinc 4 (-1), 3) := by decide +kernel
theorem dX9_append_55 : decode cX9_append 55 = .ok (.goto (-36), 3) := by decide +kernel
theorem dX9_append_58 : decode cX9_append 58 = .ok (.iconst 1, 1) := by decide +kernel
theorem dX9_append_59 : decode cX9_append 59 = .ok (.ireturn, 1) := by decide +kernel
set_option maxRecDepth 20000 in
theorem ggX10_init_X3_init : GoodIn wsX10_init wsX3_init := goodIn_r _ [17, 18, 2, 3, 19, 20, 21, 22, 31, 32, 33, 34] (by decide +kernel) (by decide +kernel)
set_option maxRecDepth 20000 in
theorem gX10_init_X3_init : GoodIn wsX10_init (wsX3_init) := ggX10_init_X3_init
set_option maxRecDepth 20000 in
theorem ggX10_init_X5_init : GoodIn wsX10_init wsX5_init := goodIn_r _ [25, 26, 2, 3, 27, 19, 28, 29, 30, 40, 41, 42, 43, 44, 45] (by decide +kernel) (by decide +kernel)
set_option maxRecDepth 20000 in
theorem gX10_init_X5_init : GoodIn wsX10_init (wsX5_init) := ggX10_init_X5_init
theorem dX10_init_0 : decode cX10_init 0 = .ok (.aload_n 0, 1) := by decide +kernel
theorem dX10_init_1 : decode cX10_init 1 = .ok (.invokespecial 3, 3) := by decide +kernel
theorem dX10_init_4 : decode cX10_init 4 = .ok (.aload_n 0, 1) := by decide +kernel
theorem dX10_init_5 : decode cX10_init 5 = .ok (.new 9, 3) := by decide +kernel
theorem dX10_init_8 : decode cX10_init 8 = .ok (.dup, 1) := by decide +kernel
theorem dX10_init_9 : decode cX10_init 9 = .ok (.bipush 24, 2) := by decide +kernel
theorem dX10_init_11 : decode cX10_init 11 = .ok (.invokespecial 11, 3) := by decide +kernel
theorem dX10_init_14 : decode cX10_init 14 = .ok (.putfield 14, 3) := by decide +kernel
theorem dX10_init_17 : decode cX10_init 17 = .ok (.aload_n 0, 1) := by decide +kernel
theorem dX10_init_18 : decode cX10_init 18 = .ok (.iconst 5, 1) := by decide +kernel
theorem dX10_init_19 : decode cX10_init 19 = .ok (.anewarray 20, 3) := by decide +kernel
theorem dX10_init_22 : decode cX10_init 22 = .ok (.putfield 22, 3) := by decide +kernel
theorem dX10_init_25 : decode cX10_init 25 = .ok (.aload_n 0, 1) := by decide +kernel
theorem dX10_init_26 : decode cX10_init 26 = .ok (.aload_n 1, 1) := by decide +kernel
theorem dX10_init_27 : decode cX10_init 27 = .ok (.putfield 26, 3) := by decide +kernel
theorem dX10_init_30 : decode cX10_init 30 = .ok (.aload_n 0, 1) := by decide +kernel
theorem dX10_init_31 : decode cX10_init 31 = .ok (.aload_n 2, 1) := by decide +kernel
theorem dX10_init_32 : decode cX10_init 32 = .ok (.putfield 30, 3) := by decide +kernel
theorem dX10_init_35 : decode cX10_init 35 = .ok (.aload_n 0, 1) := by decide +kernel
theorem dX10_init_36 : decode cX10_init 36 = .ok (.aload_n 3, 1) := by decide +kernel
theorem dX10_init_37 : decode cX10_init 37 = .ok (.putfield 34, 3) := by decide +kernel
theorem dX10_init_40 : decode cX10_init 40 = .ok (.iconst 0, 1) := by decide +kernel
theorem dX10_init_41 : decode cX10_init 41 = .ok (.istore 4, 2) := by decide +kernel
theorem dX10_init_43 : decode cX10_init 43 = .ok (.iload 4, 2) := by decide +kernel
theorem dX10_init_45 : decode cX10_init 45 = .ok (.iconst 4, 1) := by decide +kernel
theorem dX10_init_46 : decode cX10_init 46 = .ok (.if_icmp .gt 26, 3) := by decide +kernel
theorem dX10_init_49 : decode cX10_init 49 = .ok (.aload_n 0, 1) := by decide +kernel
theorem dX10_init_50 : decode cX10_init 50 = .ok (.getfield 22, 3) := by decide +kernel
theorem dX10_init_53 : decode cX10_init 53 = .ok (.iload 4, 2) := by decide +kernel
theorem dX10_init_55 : decode cX10_init 55 = .ok (.new 20, 3) := by decide +kernel
theorem dX10_init_58 : decode cX10_init 58 = .ok (.dup, 1) := by decide +kernel
theorem dX10_init_59 : decode cX10_init 59 = .ok (.aload_n 1, 1) := by decide +kernel
theorem dX10_init_60 : decode cX10_init 60 = .ok (.bipush 28, 2) := by decide +kernel
theorem dX10_init_62 : decode cX10_init 62 = .ok (.invokespecial 38, 3) := by decide +kernel
theorem dX10_init_65 : decode cX10_init 65 = .ok (.aastore, 1) := by decide +kernel
theorem dX10_init_66 : decode cX10_init 66 = .ok (.iinc 4 1, 3) := by decide +kernel
theorem dX10_init_69 : decode cX10_init 69 = .ok (.goto (-26), 3) := by decide +kernel
theorem dX10_init_72 : decode cX10_init 72 = .ok (.return_, 1) := by decide +kernel
set_option maxRecDepth 20000 in
theorem ggX10_countWays_X3_fillFrom : GoodIn wsX10_countWays wsX3_fillFrom := goodIn_r _ [10, 11, 12, 13, 14, 15, 16, 17, 18, 19, 20, 21, 22, 23, 24, 25, 26, 27, 28, 29, 9, 30, 31, 32, 33, 110, 111, 112, 113, 105, 106, 107, 108, 109, 114, 115, 116, 117, 118, 119, 120] (by decide +kernel) (by decide +kernel)
set_option maxRecDepth 20000 in
theorem gX10_countWays_X3_fillFrom : GoodIn wsX10_countWays (wsV RX10 41 RX3 yX3_fillFrom wsX3_fillFrom) := goodIn_app (goodIn_of _ (by decide +kernel)) ggX10_countWays_X3_fillFrom
set_option maxRecDepth 20000 in
theorem ggX10_countWays_X5_empty : GoodIn wsX10_countWays wsX5_empty := goodIn_r _ [38, 39, 40, 121, 122, 123, 124, 125, 126] (by decide +kernel) (by decide +kernel)
set_option maxRecDepth 20000 in
theorem gX10_countWays_X5_empty : GoodIn wsX10_countWays (wsV RX10 45 RX5 yX5_empty wsX5_empty) := goodIn_app (goodIn_of _ (by decide +kernel)) ggX10_countWays_X5_empty
set_option maxRecDepth 20000 in
theorem ggX10_countWays_X5_hearTo : GoodIn wsX10_countWays wsX5_hearTo := goodIn_r _ [44, 40, 45, 46, 47, 48, 49, 50, 37, 51, 39, 52, 53, 54, 55, 56, 57, 58, 59, 60, 61, 62, 63, 64, 65, 121, 122, 123, 124, 125, 126, 110, 111, 112, 113, 114, 115, 116, 117, 118, 119, 120] (by decide +kernel) (by decide +kernel)
set_option maxRecDepth 20000 in
theorem gX10_countWays_X5_hearTo : GoodIn wsX10_countWays (wsV RX10 54 RX5 yX5_hearTo wsX5_hearTo) := goodIn_app (goodIn_of _ (by decide +kernel)) ggX10_countWays_X5_hearTo
set_option maxRecDepth 20000 in
theorem ggX10_countWays_X10_waysFrom : GoodIn wsX10_countWays wsX10_waysFrom := goodIn_r _ [70, 4, 2, 5, 1, 3, 71, 72, 73, 74, 69, 75, 76, 77, 78, 79, 37, 80, 39, 81, 82, 83, 84, 85, 52, 86, 87, 88, 89, 90, 41, 42, 43, 44, 40, 45, 46, 47, 48, 49, 50, 51, 53, 54, 55, 56, 57, 58, 59, 60, 61, 62, 63, 64, 65, 91, 92, 93, 94, 95, 96, 97, 98, 99, 66, 67, 68, 100, 101, 102, 103, 104, 105, 106, 107, 108, 109, 114, 115, 116, 117, 118, 119, 120, 121, 122, 123, 124, 125, 126, 127, 128, 110, 111, 112, 113] (by decide +kernel) (by decide +kernel)
set_option maxRecDepth 20000 in
theorem gX10_countWays_X10_waysFrom : GoodIn wsX10_countWays (wsV RX10 58 RX10 yX10_waysFrom wsX10_waysFrom) := goodIn_app (goodIn_of _ (by decide +kernel)) ggX10_countWays_X10_waysFrom
theorem dX10_countWays_0 : decode cX10_countWays 0 = .ok (.aload_n 0, 1) := by decide +kernel
theorem dX10_countWays_1 : decode cX10_countWays 1 = .ok (.getfield 14, 3) := by decide +kernel
theorem dX10_countWays_4 : decode cX10_countWays 4 = .ok (.aload_n 0, 1) := by decide +kernel
theorem dX10_countWays_5 : decode cX10_countWays 5 = .ok (.getfield 30, 3) := by decide +kernel
theorem dX10_countWays_8 : decode cX10_countWays 8 = .ok (.aload_n 0, 1) := by decide +kernel
theorem dX10_countWays_9 : decode cX10_countWays 9 = .ok (.getfield 26, 3) := by decide +kernel
theorem dX10_countWays_12 : decode cX10_countWays 12 = .ok (.iload_n 1, 1) := by decide +kernel
theorem dX10_countWays_13 : decode cX10_countWays 13 = .ok (.invokevirtual 41, 3) := by decide +kernel
theorem dX10_countWays_16 : decode cX10_countWays 16 = .ok (.aload_n 0, 1) := by decide +kernel
theorem dX10_countWays_17 : decode cX10_countWays 17 = .ok (.getfield 22, 3) := by decide +kernel
theorem dX10_countWays_20 : decode cX10_countWays 20 = .ok (.iconst 0, 1) := by decide +kernel
theorem dX10_countWays_21 : decode cX10_countWays 21 = .ok (.aaload, 1) := by decide +kernel
theorem dX10_countWays_22 : decode cX10_countWays 22 = .ok (.invokevirtual 45, 3) := by decide +kernel
theorem dX10_countWays_25 : decode cX10_countWays 25 = .ok (.aload_n 0, 1) := by decide +kernel
theorem dX10_countWays_26 : decode cX10_countWays 26 = .ok (.getfield 22, 3) := by decide +kernel
theorem dX10_countWays_29 : decode cX10_countWays 29 = .ok (.iconst 0, 1) := by decide +kernel
theorem dX10_countWays_30 : decode cX10_countWays 30 = .ok (.aaload, 1) := by decide +kernel
theorem dX10_countWays_31 : decode cX10_countWays 31 = .ok (.aload_n 0, 1) := by decide +kernel
theorem dX10_countWays_32 : decode cX10_countWays 32 = .ok (.getfield 14, 3) := by decide +kernel
theorem dX10_countWays_35 : decode cX10_countWays 35 = .ok (.aload_n 0, 1) := by decide +kernel
theorem dX10_countWays_36 : decode cX10_countWays 36 = .ok (.getfield 30, 3) := by decide +kernel
theorem dX10_countWays_39 : decode cX10_countWays 39 = .ok (.getfield 48, 3) := by decide +kernel
theorem dX10_countWays_42 : decode cX10_countWays 42 = .ok (.invokevirtual 54, 3) := by decide +kernel
theorem dX10_countWays_45 : decode cX10_countWays 45 = .ok (.aload_n 0, 1) := by decide +kernel
theorem dX10_countWays_46 : decode cX10_countWays 46 = .ok (.iconst 0, 1) := by decide +kernel
theorem dX10_countWays_47 : decode cX10_countWays 47 = .ok (.iload_n 2, 1) := by decide +kernel
theorem dX10_countWays_48 : decode cX10_countWays 48 = .ok (.iload_n 3, 1) := by decide +kernel
theorem dX10_countWays_49 : decode cX10_countWays 49 = .ok (.invokevirtual 58, 3) := by decide +kernel
theorem dX10_countWays_52 : decode cX10_countWays 52 = .ok (.ireturn, 1) := by decide +kernel
set_option maxRecDepth 20000 in
theorem ggX10_waysFrom_X10_isReached : GoodIn wsX10_waysFrom wsX10_isReached := goodIn_r _ [11, 12, 13, 14, 15, 16, 17, 18, 19, 20, 21, 22, 23, 24, 25, 26, 27, 28, 29, 67, 68, 69, 70, 71, 84, 85, 86, 87, 88, 89, 90, 91] (by decide +kernel) (by decide +kernel)
set_option maxRecDepth 20000 in
theorem gX10_waysFrom_X10_isReached : GoodIn wsX10_waysFrom (wsV RX10 62 RX10 yX10_isReached wsX10_isReached) := goodIn_app (goodIn_of _ (by decide +kernel)) ggX10_waysFrom_X10_isReached
set_option maxRecDepth 20000 in
theorem ggX10_waysFrom_X5_hearTo : GoodIn wsX10_waysFrom wsX5_hearTo := goodIn_r _ [33, 34, 35, 36, 37, 38, 39, 40, 16, 41, 18, 24, 42, 43, 44, 45, 46, 47, 48, 49, 50, 51, 52, 53, 54, 84, 85, 86, 87, 88, 89, 92, 93, 94, 95, 77, 78, 79, 80, 81, 82, 83] (by decide +kernel) (by decide +kernel)
set_option maxRecDepth 20000 in
theorem gX10_waysFrom_X5_hearTo : GoodIn wsX10_waysFrom (wsV RX10 54 RX5 yX5_hearTo wsX5_hearTo) := goodIn_app (goodIn_of _ (by decide +kernel)) ggX10_waysFrom_X5_hearTo
set_option maxRecDepth 20000 in
theorem ggX10_waysFrom_X5_copyFrom : GoodIn wsX10_waysFrom wsX5_copyFrom := goodIn_r _ [58, 18, 24, 59, 60, 61, 62, 34, 42, 43, 84, 85, 86, 87, 88, 89] (by decide +kernel) (by decide +kernel)
set_option maxRecDepth 20000 in
theorem gX10_waysFrom_X5_copyFrom : GoodIn wsX10_waysFrom (wsV RX10 71 RX5 yX5_copyFrom wsX5_copyFrom) := goodIn_app (goodIn_of _ (by decide +kernel)) ggX10_waysFrom_X5_copyFrom
set_option maxRecDepth 20000 in
theorem ggX10_waysFrom_X5_hear : GoodIn wsX10_waysFrom wsX5_hear := goodIn_r _ [41, 18, 24, 42, 43, 44, 45, 46, 16, 47, 48, 49, 50, 51, 52, 53, 54, 84, 85, 86, 87, 88, 89, 77, 78, 79, 80, 81, 82, 83] (by decide +kernel) (by decide +kernel)
set_option maxRecDepth 20000 in
theorem gX10_waysFrom_X5_hear : GoodIn wsX10_waysFrom (wsV RX10 75 RX5 yX5_hear wsX5_hear) := goodIn_app (goodIn_of _ (by decide +kernel)) ggX10_waysFrom_X5_hear
set_option maxRecDepth 20000 in
theorem ggX10_waysFrom_X10_waysFrom : GoodIn wsX10_waysFrom wsX10_waysFrom := goodIn_r _ [0, 1, 2, 3, 4, 5, 6, 7, 8, 9, 10, 11, 12, 13, 14, 15, 16, 17, 18, 19, 20, 21, 22, 23, 24, 25, 26, 27, 28, 29, 30, 31, 32, 33, 34, 35, 36, 37, 38, 39, 40, 41, 42, 43, 44, 45, 46, 47, 48, 49, 50, 51, 52, 53, 54, 55, 56, 57, 58, 59, 60, 61, 62, 63, 64, 65, 66, 67, 68, 69, 70, 71, 72, 73, 74, 75, 76, 77, 78, 79, 80, 81, 82, 83, 84, 85, 86, 87, 88, 89, 90, 91, 92, 93, 94, 95] (by decide +kernel) (by decide +kernel)
set_option maxRecDepth 20000 in
theorem gX10_waysFrom_X10_waysFrom : GoodIn wsX10_waysFrom (wsV RX10 58 RX10 yX10_waysFrom wsX10_waysFrom) := goodIn_app (goodIn_of _ (by decide +kernel)) ggX10_waysFrom_X10_waysFrom
theorem dX10_waysFrom_0 : decode cX10_waysFrom 0 = .ok (.iload_n 1, 1) := by decide +kernel
theorem dX10_waysFrom_1 : decode cX10_waysFrom 1 = .ok (.ifCond .lt 8, 3) := by decide +kernel
theorem dX10_waysFrom_4 : decode cX10_waysFrom 4 = .ok (.iload_n 1, 1) := by decide +kernel
theorem dX10_waysFrom_5 : decode cX10_waysFrom 5 = .ok (.iconst 4, 1) := by decide +kernel
theorem dX10_waysFrom_6 : decode cX10_waysFrom 6 = .ok (.if_icmp .le 5, 3) := by decide +kernel
theorem dX10_waysFrom_9 : decode cX10_waysFrom 9 = .ok (.iconst 0, 1) := by decide +kernel
theorem dX10_waysFrom_10 : decode cX10_waysFrom 10 = .ok (.ireturn, 1) := by decide +kernel
theorem dX10_waysFrom_11 : decode cX10_waysFrom 11 = .ok (.aload_n 0, 1) := by decide +kernel
theorem dX10_waysFrom_12 : decode cX10_waysFrom 12 = .ok (.getfield 22, 3) := by decide +kernel
theorem dX10_waysFrom_15 : decode cX10_waysFrom 15 = .ok (.iload_n 1, 1) := by decide +kernel
theorem dX10_waysFrom_16 : decode cX10_waysFrom 16 = .ok (.aaload, 1) := by decide +kernel
theorem dX10_waysFrom_17 : decode cX10_waysFrom 17 = .ok (.astore 4, 2) := by decide +kernel
theorem dX10_waysFrom_19 : decode cX10_waysFrom 19 = .ok (.iload_n 1, 1) := by decide +kernel
theorem dX10_waysFrom_20 : decode cX10_waysFrom 20 = .ok (.iload_n 2, 1) := by decide +kernel
theorem dX10_waysFrom_21 : decode cX10_waysFrom 21 = .ok (.if_icmp .ge 8, 3) := by decide +kernel
theorem dX10_waysFrom_24 : decode cX10_waysFrom 24 = .ok (.iload_n 1, 1) := by decide +kernel
theorem dX10_waysFrom_25 : decode cX10_waysFrom 25 = .ok (.iconst 4, 1) := by decide +kernel
theorem dX10_waysFrom_26 : decode cX10_waysFrom 26 = .ok (.if_icmp .ne 19, 3) := by decide +kernel
theorem dX10_waysFrom_29 : decode cX10_waysFrom 29 = .ok (.aload_n 0, 1) := by decide +kernel
theorem dX10_waysFrom_30 : decode cX10_waysFrom 30 = .ok (.aload 4, 2) := by decide +kernel
theorem dX10_waysFrom_32 : decode cX10_waysFrom 32 = .ok (.iload_n 3, 1) := by decide +kernel
theorem dX10_waysFrom_33 : decode cX10_waysFrom 33 = .ok (.invokevirtual 62, 3) := by decide +kernel
theorem dX10_waysFrom_36 : decode cX10_waysFrom 36 = .ok (.ifCond .eq 7, 3) := by decide +kernel
theorem dX10_waysFrom_39 : decode cX10_waysFrom 39 = .ok (.iconst 1, 1) := by decide +kernel
theorem dX10_waysFrom_40 : decode cX10_waysFrom 40 = .ok (.goto 4, 3) := by decide +kernel
theorem dX10_waysFrom_43 : decode cX10_waysFrom 43 = .ok (.iconst 0, 1) := by decide +kernel
theorem dX10_waysFrom_44 : decode cX10_waysFrom 44 = .ok (.ireturn, 1) := by decide +kernel
theorem dX10_waysFrom_45 : decode cX10_waysFrom 45 = .ok (.aload_n 0, 1) := by decide +kernel
theorem dX10_waysFrom_46 : decode cX10_waysFrom 46 = .ok (.getfield 30, 3) := by decide +kernel
theorem dX10_waysFrom_49 : decode cX10_waysFrom 49 = .ok (.getfield 48, 3) := by decide +kernel
theorem dX10_waysFrom_52 : decode cX10_waysFrom 52 = .ok (.iload_n 1, 1) := by decide +kernel
theorem dX10_waysFrom_53 : decode cX10_waysFrom 53 = .ok (.iadd, 1) := by decide +kernel
theorem dX10_waysFrom_54 : decode cX10_waysFrom 54 = .ok (.istore 5, 2) := by decide +kernel
theorem dX10_waysFrom_56 : decode cX10_waysFrom 56 = .ok (.aload 4, 2) := by decide +kernel
theorem dX10_waysFrom_58 : decode cX10_waysFrom 58 = .ok (.aload_n 0, 1) := by decide +kernel
theorem dX10_waysFrom_59 : decode cX10_waysFrom 59 = .ok (.getfield 14, 3) := by decide +kernel
theorem dX10_waysFrom_62 : decode cX10_waysFrom 62 = .ok (.iload 5, 2) := by decide +kernel
theorem dX10_waysFrom_64 : decode cX10_waysFrom 64 = .ok (.invokevirtual 54, 3) := by decide +kernel
theorem dX10_waysFrom_67 : decode cX10_waysFrom 67 = .ok (.aload_n 0, 1) := by decide +kernel
theorem dX10_waysFrom_68 : decode cX10_waysFrom 68 = .ok (.getfield 22, 3) := by decide +kernel
theorem dX10_waysFrom_71 : decode cX10_waysFrom 71 = .ok (.iload_n 1, 1) := by decide +kernel
theorem dX10_waysFrom_72 : decode cX10_waysFrom 72 = .ok (.iconst 1, 1) := by decide +kernel
theorem dX10_waysFrom_73 : decode cX10_waysFrom 73 = .ok (.iadd, 1) := by decide +kernel
theorem dX10_waysFrom_74 : decode cX10_waysFrom 74 = .ok (.aaload, 1) := by decide +kernel
theorem dX10_waysFrom_75 : decode cX10_waysFrom 75 = .ok (.astore 6, 2) := by decide +kernel
theorem dX10_waysFrom_77 : decode cX10_waysFrom 77 = .ok (.iconst 0, 1) := by decide +kernel
theorem dX10_waysFrom_78 : decode cX10_waysFrom 78 = .ok (.istore 7, 2) := by decide +kernel
theorem dX10_waysFrom_80 : decode cX10_waysFrom 80 = .ok (.iconst 0, 1) := by decide +kernel
theorem dX10_waysFrom_81 : decode cX10_waysFrom 81 = .ok (.istore 8, 2) := by decide +kernel
theorem dX10_waysFrom_83 : decode cX10_waysFrom 83 = .ok (.iload 8, 2) := by decide +kernel
theorem dX10_waysFrom_85 : decode cX10_waysFrom 85 = .ok (.aload_n 0, 1) := by decide +kernel
theorem dX10_waysFrom_86 : decode cX10_waysFrom 86 = .ok (.getfield 26, 3) := by decide +kernel
theorem dX10_waysFrom_89 : decode cX10_waysFrom 89 = .ok (.getfield 66, 3) := by decide +kernel
theorem dX10_waysFrom_92 : decode cX10_waysFrom 92 = .ok (.if_icmp .ge 40, 3) := by decide +kernel
theorem dX10_waysFrom_95 : decode cX10_waysFrom 95 = .ok (.aload 6, 2) := by decide +kernel
theorem dX10_waysFrom_97 : decode cX10_waysFrom 97 = .ok (.aload 4, 2) := by decide +kernel
theorem dX10_waysFrom_99 : decode cX10_waysFrom 99 = .ok (.invokevirtual 71, 3) := by decide +kernel
theorem dX10_waysFrom_102 : decode cX10_waysFrom 102 = .ok (.aload 6, 2) := by decide +kernel
theorem dX10_waysFrom_104 : decode cX10_waysFrom 104 = .ok (.iload 8, 2) := by decide +kernel
theorem dX10_waysFrom_106 : decode cX10_waysFrom 106 = .ok (.iload 5, 2) := by decide +kernel
theorem dX10_waysFrom_108 : decode cX10_waysFrom 108 = .ok (.iconst (-1), 1) := by decide +kernel
theorem dX10_waysFrom_109 : decode cX10_waysFrom 109 = .ok (.invokevirtual 75, 3) := by decide +kernel
theorem dX10_waysFrom_112 : decode cX10_waysFrom 112 = .ok (.iload 7, 2) := by decide +kernel
theorem dX10_waysFrom_114 : decode cX10_waysFrom 114 = .ok (.aload_n 0, 1) := by decide +kernel
theorem dX10_waysFrom_115 : decode cX10_waysFrom 115 = .ok (.iload_n 1, 1) := by decide +kernel
theorem dX10_waysFrom_116 : decode cX10_waysFrom 116 = .ok (.iconst 1, 1) := by decide +kernel
theorem dX10_waysFrom_117 : decode cX10_waysFrom 117 = .ok (.iadd, 1) := by decide +kernel
theorem dX10_waysFrom_118 : decode cX10_waysFrom 118 = .ok (.iload_n 2, 1) := by decide +kernel
theorem dX10_waysFrom_119 : decode cX10_waysFrom 119 = .ok (.iload_n 3, 1) := by decide +kernel
theorem dX10_waysFrom_120 : decode cX10_waysFrom 120 = .ok (.invokevirtual 58, 3) := by decide +kernel
theorem dX10_waysFrom_123 : decode cX10_waysFrom 123 = .ok (.iadd, 1) := by decide +kernel
theorem dX10_waysFrom_124 : decode cX10_waysFrom 124 = .ok (.istore 7, 2) := by decide +kernel
theorem dX10_waysFrom_126 : decode cX10_waysFrom 126 = .ok (.iinc 8 1, 3) := by decide +kernel
theorem dX10_waysFrom_129 : decode cX10_waysFrom 129 = .ok (.goto (-46), 3) := by decide +kernel
theorem dX10_waysFrom_132 : decode cX10_waysFrom 132 = .ok (.iload 7, 2) := by decide +kernel
theorem dX10_waysFrom_134 : decode cX10_waysFrom 134 = .ok (.ireturn, 1) := by decide +kernel
set_option maxRecDepth 20000 in
theorem ggX10_isReached_X5_isJust : GoodIn wsX10_isReached wsX5_isJust := goodIn_r _ [6, 7, 8, 9, 10, 11, 5, 12, 13, 14, 24, 25, 26, 27, 28, 29, 30, 31] (by decide +kernel) (by decide +kernel)
set_option maxRecDepth 20000 in
theorem gX10_isReached_X5_isJust : GoodIn wsX10_isReached (wsV RX10 79 RX5 yX5_isJust wsX5_isJust) := goodIn_app (goodIn_of _ (by decide +kernel)) ggX10_isReached_X5_isJust
set_option maxRecDepth 20000 in
theorem ggX10_isReached_X5_holdsSort : GoodIn wsX10_isReached wsX5_holdsSort := goodIn_r _ [18, 7, 13, 24, 25, 26, 27, 28, 29] (by decide +kernel) (by decide +kernel)
set_option maxRecDepth 20000 in
theorem gX10_isReached_X5_holdsSort : GoodIn wsX10_isReached (wsV RX10 83 RX5 yX5_holdsSort wsX5_holdsSort) := goodIn_app (goodIn_of _ (by decide +kernel)) ggX10_isReached_X5_holdsSort
theorem dX10_isReached_0 : decode cX10_isReached 0 = .ok (.iload_n 2, 1) := by decide +kernel
theorem dX10_isReached_1 : decode cX10_isReached 1 = .ok (.iconst (-1), 1) := by decide +kernel
theorem dX10_isReached_2 : decode cX10_isReached 2 = .ok (.if_icmp .ne 14, 3) := by decide +kernel
theorem dX10_isReached_5 : decode cX10_isReached 5 = .ok (.aload_n 1, 1) := by decide +kernel
theorem dX10_isReached_6 : decode cX10_isReached 6 = .ok (.aload_n 0, 1) := by decide +kernel
theorem dX10_isReached_7 : decode cX10_isReached 7 = .ok (.getfield 34, 3) := by decide +kernel
theorem dX10_isReached_10 : decode cX10_isReached 10 = .ok (.invokevirtual 79, 3) := by decide +kernel
theorem dX10_isReached_13 : decode cX10_isReached 13 = .ok (.goto 8, 3) := by decide +kernel
theorem dX10_isReached_16 : decode cX10_isReached 16 = .ok (.aload_n 1, 1) := by decide +kernel
theorem dX10_isReached_17 : decode cX10_isReached 17 = .ok (.iload_n 2, 1) := by decide +kernel
theorem dX10_isReached_18 : decode cX10_isReached 18 = .ok (.invokevirtual 83, 3) := by decide +kernel
theorem dX10_isReached_21 : decode cX10_isReached 21 = .ok (.ireturn, 1) := by decide +kernel
set_option maxRecDepth 20000 in
theorem ggX11_init_X9_init : GoodIn wsX11_init wsX9_init := goodIn_r _ [47, 48, 2, 3, 49, 50, 149, 150] (by decide +kernel) (by decide +kernel)
set_option maxRecDepth 20000 in
theorem gX11_init_X9_init_n9 : GoodIn wsX11_init (wsX9_init) := ggX11_init_X9_init
set_option maxRecDepth 20000 in
theorem ggX11_init_X4_init : GoodIn wsX11_init wsX4_init := goodIn_r _ [53, 54, 2, 3, 55, 13, 14, 56, 57, 58, 59, 26, 27, 60, 61, 62, 63, 64, 65, 66, 67, 68, 69, 70, 71, 72, 73, 74, 75, 76, 77, 78, 79, 80, 81, 82, 83, 84, 85, 86, 87, 88, 89, 90, 91, 92, 169, 170, 171, 172, 173, 174, 175, 164, 165, 166, 167, 168, 183, 184, 209, 210] (by decide +kernel) (by decide +kernel)
set_option maxRecDepth 20000 in
theorem gX11_init_X4_init : GoodIn wsX11_init (wsX4_init) := ggX11_init_X4_init
set_option maxRecDepth 20000 in
theorem ggX11_init_X2_init : GoodIn wsX11_init wsX2_init := goodIn_r _ [64, 65, 2, 3, 66, 67, 68, 69, 57, 70, 71, 72, 73, 74, 75, 76, 26, 27, 77, 78, 79, 80, 81, 82, 83, 84, 14, 85, 86, 87, 88, 89, 90, 91, 209, 210, 169, 170, 171, 172, 173, 174, 175, 183, 184] (by decide +kernel) (by decide +kernel)
set_option maxRecDepth 20000 in
theorem gX11_init_X2_init : GoodIn wsX11_init (wsX2_init) := ggX11_init_X2_init
set_option maxRecDepth 20000 in
theorem ggX11_init_X0_init : GoodIn wsX11_init wsX0_init := goodIn_r _ [95, 96, 2, 3, 57, 97, 98, 99, 176, 177, 178, 179, 180] (by decide +kernel) (by decide +kernel)
set_option maxRecDepth 20000 in
theorem gX11_init_X0_init_n34 : GoodIn wsX11_init (wsX0_init) := ggX11_init_X0_init
set_option maxRecDepth 20000 in
theorem ggX11_init_X8_init : GoodIn wsX11_init wsX8_init := goodIn_r _ [101, 102, 2, 3, 57, 103, 181, 182] (by decide +kernel) (by decide +kernel)
set_option maxRecDepth 20000 in
theorem gX11_init_X8_init_n41 : GoodIn wsX11_init (wsX8_init) := ggX11_init_X8_init
set_option maxRecDepth 20000 in
theorem ggX11_init_X7_init : GoodIn wsX11_init wsX7_init := goodIn_r _ [79, 80, 2, 3, 57, 81, 183, 184] (by decide +kernel) (by decide +kernel)
set_option maxRecDepth 20000 in
theorem gX11_init_X7_init : GoodIn wsX11_init (wsX7_init) := ggX11_init_X7_init
set_option maxRecDepth 20000 in
theorem ggX11_init_X6_init : GoodIn wsX11_init wsX6_init := goodIn_r _ [107, 108, 2, 3, 57, 109, 110, 111, 112, 113, 114, 115, 116, 42, 43, 117, 26, 27, 38, 39, 118, 119, 120, 121, 122, 123, 124, 125, 126, 78, 79, 80, 81, 127, 128, 129, 130, 131, 132, 133, 185, 186, 187, 188, 189, 190, 191, 192, 193, 203, 204, 205, 206, 207, 208, 183, 184, 199, 200, 201, 202] (by decide +kernel) (by decide +kernel)
set_option maxRecDepth 20000 in
theorem gX11_init_X6_init : GoodIn wsX11_init (wsX6_init) := ggX11_init_X6_init
set_option maxRecDepth 20000 in
theorem ggX11_init_X10_init : GoodIn wsX11_init wsX10_init := goodIn_r _ [136, 137, 2, 3, 138, 38, 39, 139, 140, 141, 142, 143, 144, 42, 43, 145, 128, 129, 130, 57, 131, 132, 133, 146, 119, 120, 121, 122, 123, 124, 125, 199, 200, 201, 202, 194, 195, 196, 197, 198, 203, 204, 205, 206, 207, 208] (by decide +kernel) (by decide +kernel)
set_option maxRecDepth 20000 in
theorem gX11_init_X10_init : GoodIn wsX11_init (wsX10_init) := ggX11_init_X10_init
set_option maxRecDepth 20000 in
theorem ggX11_init_X3_init : GoodIn wsX11_init wsX3_init := goodIn_r _ [129, 130, 2, 3, 57, 131, 132, 133, 199, 200, 201, 202] (by decide +kernel) (by decide +kernel)
set_option maxRecDepth 20000 in
theorem gX11_init_X3_init : GoodIn wsX11_init (wsX3_init) := ggX11_init_X3_init
set_option maxRecDepth 20000 in
theorem ggX11_init_X5_init : GoodIn wsX11_init wsX5_init := goodIn_r _ [120, 121, 2, 3, 122, 57, 123, 124, 125, 203, 204, 205, 206, 207, 208] (by decide +kernel) (by decide +kernel)
set_option maxRecDepth 20000 in
theorem gX11_init_X5_init : GoodIn wsX11_init (wsX5_init) := ggX11_init_X5_init
theorem dX11_init_0 : decode cX11_init 0 = .ok (.aload_n 0, 1) := by decide +kernel
