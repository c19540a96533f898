theorem dX11_mends_41 : decode cX11_mends 41 = .ok (.bipush (-4), 2) := by decide +kernel
theorem dX11_mends_43 : decode cX11_mends 43 = .ok (.ireturn, 1) := by decide +kernel
set_option maxRecDepth 20000 in
theorem ggX11_spoiled_X1_howManySpoiled : GoodIn wsX11_spoiled wsX1_howManySpoiled := goodIn_r _ [7, 8, 9, 10, 11, 6, 12, 13, 14, 15, 16, 17, 18, 19, 20, 45, 46, 47, 48] (by decide +kernel) (by decide +kernel)
set_option maxRecDepth 20000 in
theorem gX11_spoiled_X1_howManySpoiled : GoodIn wsX11_spoiled (wsV RX11 229 RX1 yX1_howManySpoiled wsX1_howManySpoiled) := goodIn_app (goodIn_of _ (by decide +kernel)) ggX11_spoiled_X1_howManySpoiled
set_option maxRecDepth 20000 in
theorem ggX11_spoiled_X1_firstSpoiled : GoodIn wsX11_spoiled wsX1_firstSpoiled := goodIn_r _ [24, 8, 9, 10, 11, 6, 12, 13, 14, 15, 16, 17, 18, 19, 20, 45, 46, 47, 48] (by decide +kernel) (by decide +kernel)
set_option maxRecDepth 20000 in
theorem gX11_spoiled_X1_firstSpoiled : GoodIn wsX11_spoiled (wsV RX11 232 RX1 yX1_firstSpoiled wsX1_firstSpoiled) := goodIn_app (goodIn_of _ (by decide +kernel)) ggX11_spoiled_X1_firstSpoiled
theorem dX11_spoiled_0 : decode cX11_spoiled 0 = .ok (.iload_n 1, 1) := by decide +kernel
theorem dX11_spoiled_1 : decode cX11_spoiled 1 = .ok (.ifCond .eq 10, 3) := by decide +kernel
theorem dX11_spoiled_4 : decode cX11_spoiled 4 = .ok (.iload_n 1, 1) := by decide +kernel
theorem dX11_spoiled_5 : decode cX11_spoiled 5 = .ok (.iconst 1, 1) := by decide +kernel
theorem dX11_spoiled_6 : decode cX11_spoiled 6 = .ok (.if_icmp .eq 5, 3) := by decide +kernel
theorem dX11_spoiled_9 : decode cX11_spoiled 9 = .ok (.iconst (-1), 1) := by decide +kernel
theorem dX11_spoiled_10 : decode cX11_spoiled 10 = .ok (.ireturn, 1) := by decide +kernel
theorem dX11_spoiled_11 : decode cX11_spoiled 11 = .ok (.iload_n 1, 1) := by decide +kernel
theorem dX11_spoiled_12 : decode cX11_spoiled 12 = .ok (.ifCond .ne 16, 3) := by decide +kernel
theorem dX11_spoiled_15 : decode cX11_spoiled 15 = .ok (.aload_n 0, 1) := by decide +kernel
theorem dX11_spoiled_16 : decode cX11_spoiled 16 = .ok (.getfield 28, 3) := by decide +kernel
theorem dX11_spoiled_19 : decode cX11_spoiled 19 = .ok (.getfield 136, 3) := by decide +kernel
theorem dX11_spoiled_22 : decode cX11_spoiled 22 = .ok (.invokevirtual 229, 3) := by decide +kernel
theorem dX11_spoiled_25 : decode cX11_spoiled 25 = .ok (.goto 13, 3) := by decide +kernel
theorem dX11_spoiled_28 : decode cX11_spoiled 28 = .ok (.aload_n 0, 1) := by decide +kernel
theorem dX11_spoiled_29 : decode cX11_spoiled 29 = .ok (.getfield 28, 3) := by decide +kernel
theorem dX11_spoiled_32 : decode cX11_spoiled 32 = .ok (.getfield 136, 3) := by decide +kernel
theorem dX11_spoiled_35 : decode cX11_spoiled 35 = .ok (.invokevirtual 232, 3) := by decide +kernel
theorem dX11_spoiled_38 : decode cX11_spoiled 38 = .ok (.ireturn, 1) := by decide +kernel
set_option maxRecDepth 20000 in
theorem ggX11_tell_X2_isPlace : GoodIn wsX11_tell wsX2_isPlace := goodIn_r _ [9, 10, 56, 57, 58, 59, 60, 61, 62] (by decide +kernel) (by decide +kernel)
set_option maxRecDepth 20000 in
theorem gX11_tell_X2_isPlace : GoodIn wsX11_tell (wsV RX11 128 RX2 yX2_isPlace wsX2_isPlace) := goodIn_app (goodIn_of _ (by decide +kernel)) ggX11_tell_X2_isPlace
set_option maxRecDepth 20000 in
theorem ggX11_tell_X6_isTold : GoodIn wsX11_tell wsX6_isTold := goodIn_r _ [15, 16, 17, 47, 48, 49, 50, 51, 52, 53, 54, 55] (by decide +kernel) (by decide +kernel)
set_option maxRecDepth 20000 in
theorem gX11_tell_X6_isTold : GoodIn wsX11_tell (wsV RX11 235 RX6 yX6_isTold wsX6_isTold) := goodIn_app (goodIn_of _ (by decide +kernel)) ggX11_tell_X6_isTold
set_option maxRecDepth 20000 in
theorem ggX11_tell_X6_append : GoodIn wsX11_tell wsX6_append := goodIn_r _ [21, 16, 17, 22, 23, 24, 25, 26, 27, 28, 29, 30, 31, 32, 33, 47, 48, 49, 50, 51, 52, 53, 54, 55, 63, 64] (by decide +kernel) (by decide +kernel)
set_option maxRecDepth 20000 in
theorem gX11_tell_X6_append : GoodIn wsX11_tell (wsV RX11 238 RX6 yX6_append wsX6_append) := goodIn_app (goodIn_of _ (by decide +kernel)) ggX11_tell_X6_append
theorem dX11_tell_0 : decode cX11_tell 0 = .ok (.aload_n 0, 1) := by decide +kernel
theorem dX11_tell_1 : decode cX11_tell 1 = .ok (.getfield 28, 3) := by decide +kernel
theorem dX11_tell_4 : decode cX11_tell 4 = .ok (.iload_n 1, 1) := by decide +kernel
theorem dX11_tell_5 : decode cX11_tell 5 = .ok (.invokevirtual 128, 3) := by decide +kernel
theorem dX11_tell_8 : decode cX11_tell 8 = .ok (.ifCond .ne 5, 3) := by decide +kernel
theorem dX11_tell_11 : decode cX11_tell 11 = .ok (.iconst (-1), 1) := by decide +kernel
theorem dX11_tell_12 : decode cX11_tell 12 = .ok (.ireturn, 1) := by decide +kernel
theorem dX11_tell_13 : decode cX11_tell 13 = .ok (.aload_n 0, 1) := by decide +kernel
theorem dX11_tell_14 : decode cX11_tell 14 = .ok (.getfield 64, 3) := by decide +kernel
theorem dX11_tell_17 : decode cX11_tell 17 = .ok (.iload_n 1, 1) := by decide +kernel
theorem dX11_tell_18 : decode cX11_tell 18 = .ok (.invokevirtual 235, 3) := by decide +kernel
theorem dX11_tell_21 : decode cX11_tell 21 = .ok (.ifCond .eq 6, 3) := by decide +kernel
theorem dX11_tell_24 : decode cX11_tell 24 = .ok (.bipush (-2), 2) := by decide +kernel
theorem dX11_tell_26 : decode cX11_tell 26 = .ok (.ireturn, 1) := by decide +kernel
theorem dX11_tell_27 : decode cX11_tell 27 = .ok (.aload_n 0, 1) := by decide +kernel
theorem dX11_tell_28 : decode cX11_tell 28 = .ok (.getfield 64, 3) := by decide +kernel
theorem dX11_tell_31 : decode cX11_tell 31 = .ok (.iload_n 1, 1) := by decide +kernel
theorem dX11_tell_32 : decode cX11_tell 32 = .ok (.aload_n 0, 1) := by decide +kernel
theorem dX11_tell_33 : decode cX11_tell 33 = .ok (.getfield 55, 3) := by decide +kernel
theorem dX11_tell_36 : decode cX11_tell 36 = .ok (.invokevirtual 238, 3) := by decide +kernel
theorem dX11_tell_39 : decode cX11_tell 39 = .ok (.ifCond .eq 13, 3) := by decide +kernel
theorem dX11_tell_42 : decode cX11_tell 42 = .ok (.aload_n 0, 1) := by decide +kernel
theorem dX11_tell_43 : decode cX11_tell 43 = .ok (.getfield 64, 3) := by decide +kernel
theorem dX11_tell_46 : decode cX11_tell 46 = .ok (.getfield 120, 3) := by decide +kernel
theorem dX11_tell_49 : decode cX11_tell 49 = .ok (.goto 5, 3) := by decide +kernel
theorem dX11_tell_52 : decode cX11_tell 52 = .ok (.bipush (-3), 2) := by decide +kernel
theorem dX11_tell_54 : decode cX11_tell 54 = .ok (.ireturn, 1) := by decide +kernel
theorem dX11_forget_0 : decode cX11_forget 0 = .ok (.aload_n 0, 1) := by decide +kernel
theorem dX11_forget_1 : decode cX11_forget 1 = .ok (.getfield 64, 3) := by decide +kernel
theorem dX11_forget_4 : decode cX11_forget 4 = .ok (.getfield 120, 3) := by decide +kernel
theorem dX11_forget_7 : decode cX11_forget 7 = .ok (.istore_n 1, 1) := by decide +kernel
theorem dX11_forget_8 : decode cX11_forget 8 = .ok (.aload_n 0, 1) := by decide +kernel
theorem dX11_forget_9 : decode cX11_forget 9 = .ok (.getfield 64, 3) := by decide +kernel
theorem dX11_forget_12 : decode cX11_forget 12 = .ok (.iconst 0, 1) := by decide +kernel
theorem dX11_forget_13 : decode cX11_forget 13 = .ok (.putfield 120, 3) := by decide +kernel
theorem dX11_forget_16 : decode cX11_forget 16 = .ok (.iload_n 1, 1) := by decide +kernel
theorem dX11_forget_17 : decode cX11_forget 17 = .ok (.ireturn, 1) := by decide +kernel
set_option maxRecDepth 20000 in
theorem ggX11_secret_X6_search : GoodIn wsX11_secret wsX6_search := goodIn_r _ [8, 9, 10, 11, 12, 13, 14, 15, 16, 17, 18, 19, 20, 21, 22, 23, 24, 25, 26, 27, 28, 29, 30, 31, 32, 33, 34, 35, 36, 37, 38, 39, 40, 41, 42, 43, 44, 45, 46, 47, 48, 49, 50, 51, 52, 53, 54, 7, 55, 56, 57, 58, 59, 60, 61, 62, 63, 64, 65, 66, 67, 68, 69, 70, 71, 72, 73, 74, 75, 76, 77, 78, 79, 80, 81, 82, 83, 84, 85, 86, 87, 88, 89, 90, 91, 92, 93, 94, 95, 96, 97, 98, 99, 100, 101, 102, 103, 104, 105, 106, 107, 108, 109, 110, 111, 112, 113, 127, 128, 129, 130, 131, 132, 133, 134, 135, 136, 137, 138, 139, 140, 141, 142, 143, 144, 145, 146, 147, 148, 149, 150, 151, 152, 153, 154, 155, 156, 157, 158, 159] (by decide +kernel) (by decide +kernel)
set_option maxRecDepth 20000 in
theorem gX11_secret_X6_search : GoodIn wsX11_secret (wsV RX11 241 RX6 yX6_search wsX6_search) := goodIn_app (goodIn_of _ (by decide +kernel)) ggX11_secret_X6_search
theorem dX11_secret_0 : decode cX11_secret 0 = .ok (.iload_n 1, 1) := by decide +kernel
theorem dX11_secret_1 : decode cX11_secret 1 = .ok (.ifCond .eq 10, 3) := by decide +kernel
theorem dX11_secret_4 : decode cX11_secret 4 = .ok (.iload_n 1, 1) := by decide +kernel
theorem dX11_secret_5 : decode cX11_secret 5 = .ok (.iconst 1, 1) := by decide +kernel
theorem dX11_secret_6 : decode cX11_secret 6 = .ok (.if_icmp .eq 5, 3) := by decide +kernel
theorem dX11_secret_9 : decode cX11_secret 9 = .ok (.iconst (-1), 1) := by decide +kernel
theorem dX11_secret_10 : decode cX11_secret 10 = .ok (.ireturn, 1) := by decide +kernel
theorem dX11_secret_11 : decode cX11_secret 11 = .ok (.aload_n 0, 1) := by decide +kernel
theorem dX11_secret_12 : decode cX11_secret 12 = .ok (.getfield 64, 3) := by decide +kernel
theorem dX11_secret_15 : decode cX11_secret 15 = .ok (.invokevirtual 241, 3) := by decide +kernel
theorem dX11_secret_18 : decode cX11_secret 18 = .ok (.iload_n 1, 1) := by decide +kernel
theorem dX11_secret_19 : decode cX11_secret 19 = .ok (.ifCond .ne 13, 3) := by decide +kernel
theorem dX11_secret_22 : decode cX11_secret 22 = .ok (.aload_n 0, 1) := by decide +kernel
theorem dX11_secret_23 : decode cX11_secret 23 = .ok (.getfield 64, 3) := by decide +kernel
theorem dX11_secret_26 : decode cX11_secret 26 = .ok (.getfield 244, 3) := by decide +kernel
theorem dX11_secret_29 : decode cX11_secret 29 = .ok (.goto 10, 3) := by decide +kernel
theorem dX11_secret_32 : decode cX11_secret 32 = .ok (.aload_n 0, 1) := by decide +kernel
theorem dX11_secret_33 : decode cX11_secret 33 = .ok (.getfield 64, 3) := by decide +kernel
theorem dX11_secret_36 : decode cX11_secret 36 = .ok (.getfield 247, 3) := by decide +kernel
theorem dX11_secret_39 : decode cX11_secret 39 = .ok (.ireturn, 1) := by decide +kernel
set_option maxRecDepth 20000 in
theorem ggX11_chance_X2_isPlace : GoodIn wsX11_chance wsX2_isPlace := goodIn_r _ [8, 9, 130, 131, 132, 133, 134, 135, 136] (by decide +kernel) (by decide +kernel)
set_option maxRecDepth 20000 in
theorem gX11_chance_X2_isPlace : GoodIn wsX11_chance (wsV RX11 128 RX2 yX2_isPlace wsX2_isPlace) := goodIn_app (goodIn_of _ (by decide +kernel)) ggX11_chance_X2_isPlace
set_option maxRecDepth 20000 in
theorem ggX11_chance_X2_isSort : GoodIn wsX11_chance wsX2_isSort := goodIn_r _ [13, 14, 130, 131, 132, 133, 134, 135, 136] (by decide +kernel) (by decide +kernel)
set_option maxRecDepth 20000 in
theorem gX11_chance_X2_isSort : GoodIn wsX11_chance (wsV RX11 153 RX2 yX2_isSort wsX2_isSort) := goodIn_app (goodIn_of _ (by decide +kernel)) ggX11_chance_X2_isSort
set_option maxRecDepth 20000 in
theorem ggX11_chance_X10_countWays : GoodIn wsX11_chance wsX10_countWays := goodIn_r _ [19, 20, 21, 22, 23, 24, 25, 26, 27, 28, 29, 30, 31, 32, 33, 34, 35, 36, 37, 7, 38, 39, 40, 5, 6, 8, 9, 41, 42, 43, 44, 45, 46, 47, 48, 49, 50, 51, 52, 53, 54, 55, 56, 57, 58, 59, 60, 61, 62, 63, 64, 65, 66, 67, 68, 69, 70, 71, 72, 73, 74, 75, 76, 77, 78, 79, 80, 81, 82, 18, 83, 84, 85, 86, 87, 88, 89, 90, 91, 92, 93, 94, 95, 96, 97, 98, 99, 100, 101, 102, 103, 104, 105, 106, 107, 108, 109, 110, 111, 112, 137, 138, 139, 140, 141, 142, 143, 144, 145, 146, 147, 148, 149, 150, 130, 131, 132, 133, 134, 135, 136, 151, 152, 153, 154, 155, 156, 157, 158] (by decide +kernel) (by decide +kernel)
set_option maxRecDepth 20000 in
theorem gX11_chance_X10_countWays : GoodIn wsX11_chance (wsV RX11 225 RX10 yX10_countWays wsX10_countWays) := goodIn_app (goodIn_of _ (by decide +kernel)) ggX11_chance_X10_countWays
set_option maxRecDepth 20000 in
theorem ggX11_chance_X11_commonDivisor : GoodIn wsX11_chance wsX11_commonDivisor := goodIn_r _ [116] (by decide +kernel) (by decide +kernel)
set_option maxRecDepth 20000 in
theorem gX11_chance_X11_commonDivisor : GoodIn wsX11_chance (va_wsS RX11 253 yX11_commonDivisor wsX11_commonDivisor) := goodIn_app (goodIn_of _ (by decide +kernel)) ggX11_chance_X11_commonDivisor
theorem dX11_chance_0 : decode cX11_chance 0 = .ok (.aload_n 0, 1) := by decide +kernel
theorem dX11_chance_1 : decode cX11_chance 1 = .ok (.getfield 28, 3) := by decide +kernel
theorem dX11_chance_4 : decode cX11_chance 4 = .ok (.iload_n 1, 1) := by decide +kernel
theorem dX11_chance_5 : decode cX11_chance 5 = .ok (.invokevirtual 128, 3) := by decide +kernel
theorem dX11_chance_8 : decode cX11_chance 8 = .ok (.ifCond .eq 34, 3) := by decide +kernel
theorem dX11_chance_11 : decode cX11_chance 11 = .ok (.aload_n 0, 1) := by decide +kernel
theorem dX11_chance_12 : decode cX11_chance 12 = .ok (.getfield 28, 3) := by decide +kernel
theorem dX11_chance_15 : decode cX11_chance 15 = .ok (.iload_n 2, 1) := by decide +kernel
theorem dX11_chance_16 : decode cX11_chance 16 = .ok (.invokevirtual 153, 3) := by decide +kernel
theorem dX11_chance_19 : decode cX11_chance 19 = .ok (.ifCond .eq 23, 3) := by decide +kernel
theorem dX11_chance_22 : decode cX11_chance 22 = .ok (.iload_n 3, 1) := by decide +kernel
theorem dX11_chance_23 : decode cX11_chance 23 = .ok (.ifCond .lt 19, 3) := by decide +kernel
theorem dX11_chance_26 : decode cX11_chance 26 = .ok (.iload_n 3, 1) := by decide +kernel
theorem dX11_chance_27 : decode cX11_chance 27 = .ok (.iconst 4, 1) := by decide +kernel
theorem dX11_chance_28 : decode cX11_chance 28 = .ok (.if_icmp .gt 14, 3) := by decide +kernel
theorem dX11_chance_31 : decode cX11_chance 31 = .ok (.iload 4, 2) := by decide +kernel
theorem dX11_chance_33 : decode cX11_chance 33 = .ok (.ifCond .lt 9, 3) := by decide +kernel
theorem dX11_chance_36 : decode cX11_chance 36 = .ok (.iload 4, 2) := by decide +kernel
theorem dX11_chance_38 : decode cX11_chance 38 = .ok (.iconst 1, 1) := by decide +kernel
theorem dX11_chance_39 : decode cX11_chance 39 = .ok (.if_icmp .le 5, 3) := by decide +kernel
theorem dX11_chance_42 : decode cX11_chance 42 = .ok (.iconst (-1), 1) := by decide +kernel
theorem dX11_chance_43 : decode cX11_chance 43 = .ok (.ireturn, 1) := by decide +kernel
theorem dX11_chance_44 : decode cX11_chance 44 = .ok (.aload_n 0, 1) := by decide +kernel
theorem dX11_chance_45 : decode cX11_chance 45 = .ok (.getfield 73, 3) := by decide +kernel
theorem dX11_chance_48 : decode cX11_chance 48 = .ok (.iload_n 1, 1) := by decide +kernel
theorem dX11_chance_49 : decode cX11_chance 49 = .ok (.iload_n 3, 1) := by decide +kernel
theorem dX11_chance_50 : decode cX11_chance 50 = .ok (.iload_n 2, 1) := by decide +kernel
theorem dX11_chance_51 : decode cX11_chance 51 = .ok (.invokevirtual 225, 3) := by decide +kernel
theorem dX11_chance_54 : decode cX11_chance 54 = .ok (.istore 5, 2) := by decide +kernel
theorem dX11_chance_56 : decode cX11_chance 56 = .ok (.iconst 1, 1) := by decide +kernel
theorem dX11_chance_57 : decode cX11_chance 57 = .ok (.istore 6, 2) := by decide +kernel
theorem dX11_chance_59 : decode cX11_chance 59 = .ok (.iconst 0, 1) := by decide +kernel
theorem dX11_chance_60 : decode cX11_chance 60 = .ok (.istore 7, 2) := by decide +kernel
theorem dX11_chance_62 : decode cX11_chance 62 = .ok (.iload 7, 2) := by decide +kernel
theorem dX11_chance_64 : decode cX11_chance 64 = .ok (.iload_n 3, 1) := by decide +kernel
theorem dX11_chance_65 : decode cX11_chance 65 = .ok (.if_icmp .ge 21, 3) := by decide +kernel
theorem dX11_chance_68 : decode cX11_chance 68 = .ok (.iload 6, 2) := by decide +kernel
theorem dX11_chance_70 : decode cX11_chance 70 = .ok (.aload_n 0, 1) := by decide +kernel
theorem dX11_chance_71 : decode cX11_chance 71 = .ok (.getfield 28, 3) := by decide +kernel
theorem dX11_chance_74 : decode cX11_chance 74 = .ok (.getfield 250, 3) := by decide +kernel
theorem dX11_chance_77 : decode cX11_chance 77 = .ok (.imul, 1) := by decide +kernel
theorem dX11_chance_78 : decode cX11_chance 78 = .ok (.istore 6, 2) := by decide +kernel
theorem dX11_chance_80 : decode cX11_chance 80 = .ok (.iinc 7 1, 3) := by decide +kernel
theorem dX11_chance_83 : decode cX11_chance 83 = .ok (.goto (-21), 3) := by decide +kernel
theorem dX11_chance_86 : decode cX11_chance 86 = .ok (.iload 5, 2) := by decide +kernel
theorem dX11_chance_88 : decode cX11_chance 88 = .ok (.iload 6, 2) := by decide +kernel
theorem dX11_chance_90 : decode cX11_chance 90 = .ok (.invokestatic 253, 3) := by decide +kernel
theorem dX11_chance_93 : decode cX11_chance 93 = .ok (.istore 7, 2) := by decide +kernel
theorem dX11_chance_95 : decode cX11_chance 95 = .ok (.iload 7, 2) := by decide +kernel
theorem dX11_chance_97 : decode cX11_chance 97 = .ok (.iconst 1, 1) := by decide +kernel
theorem dX11_chance_98 : decode cX11_chance 98 = .ok (.if_icmp .ge 6, 3) := by decide +kernel
theorem dX11_chance_101 : decode cX11_chance 101 = .ok (.bipush (-4), 2) := by decide +kernel
theorem dX11_chance_103 : decode cX11_chance 103 = .ok (.ireturn, 1) := by decide +kernel
theorem dX11_chance_104 : decode cX11_chance 104 = .ok (.iload 4, 2) := by decide +kernel
theorem dX11_chance_106 : decode cX11_chance 106 = .ok (.ifCond .ne 11, 3) := by decide +kernel
theorem dX11_chance_109 : decode cX11_chance 109 = .ok (.iload 5, 2) := by decide +kernel
theorem dX11_chance_111 : decode cX11_chance 111 = .ok (.iload 7, 2) := by decide +kernel
theorem dX11_chance_113 : decode cX11_chance 113 = .ok (.idiv, 1) := by decide +kernel
theorem dX11_chance_114 : decode cX11_chance 114 = .ok (.goto 8, 3) := by decide +kernel
theorem dX11_chance_117 : decode cX11_chance 117 = .ok (.iload 6, 2) := by decide +kernel
theorem dX11_chance_119 : decode cX11_chance 119 = .ok (.iload 7, 2) := by decide +kernel
theorem dX11_chance_121 : decode cX11_chance 121 = .ok (.idiv, 1) := by decide +kernel
theorem dX11_chance_122 : decode cX11_chance 122 = .ok (.ireturn, 1) := by decide +kernel
set_option maxRecDepth 20000 in
theorem ggX11_day_X2_isPlace : GoodIn wsX11_day wsX2_isPlace := goodIn_r _ [15, 16, 85, 86, 87, 88, 89, 90, 91] (by decide +kernel) (by decide +kernel)
set_option maxRecDepth 20000 in
theorem gX11_day_X2_isPlace : GoodIn wsX11_day (wsV RX11 128 RX2 yX2_isPlace wsX2_isPlace) := goodIn_app (goodIn_of _ (by decide +kernel)) ggX11_day_X2_isPlace
set_option maxRecDepth 20000 in
theorem ggX11_day_X11_restOf : GoodIn wsX11_day wsX11_restOf := goodIn_r _ [20] (by decide +kernel) (by decide +kernel)
set_option maxRecDepth 20000 in
theorem gX11_day_X11_restOf : GoodIn wsX11_day (va_wsS RX11 263 yX11_restOf wsX11_restOf) := goodIn_app (goodIn_of _ (by decide +kernel)) ggX11_day_X11_restOf
set_option maxRecDepth 20000 in
theorem ggX11_day_X2_minutesBetween : GoodIn wsX11_day wsX2_minutesBetween := goodIn_r _ [24, 25, 26, 12, 13, 14, 15, 16, 85, 86, 87, 88, 89, 90, 91] (by decide +kernel) (by decide +kernel)
set_option maxRecDepth 20000 in
theorem gX11_day_X2_minutesBetween : GoodIn wsX11_day (wsV RX11 132 RX2 yX2_minutesBetween wsX2_minutesBetween) := goodIn_app (goodIn_of _ (by decide +kernel)) ggX11_day_X2_minutesBetween
set_option maxRecDepth 20000 in
theorem ggX11_day_X3_insert : GoodIn wsX11_day wsX3_insert := goodIn_r _ [31, 32, 33, 34, 35, 81, 82, 83, 84] (by decide +kernel) (by decide +kernel)
set_option maxRecDepth 20000 in
theorem gX11_day_X3_insert : GoodIn wsX11_day (wsV RX11 266 RX3 yX3_insert wsX3_insert) := goodIn_app (goodIn_of _ (by decide +kernel)) ggX11_day_X3_insert
set_option maxRecDepth 20000 in
theorem ggX11_day_X5_empty : GoodIn wsX11_day wsX5_empty := goodIn_r _ [40, 41, 42, 92, 93, 94, 95, 96, 97] (by decide +kernel) (by decide +kernel)
set_option maxRecDepth 20000 in
theorem gX11_day_X5_empty : GoodIn wsX11_day (wsV RX11 211 RX5 yX5_empty wsX5_empty) := goodIn_app (goodIn_of _ (by decide +kernel)) ggX11_day_X5_empty
set_option maxRecDepth 20000 in
theorem ggX11_day_X5_hearTo : GoodIn wsX11_day wsX5_hearTo := goodIn_r _ [46, 42, 47, 48, 49, 50, 51, 52, 39, 53, 41, 54, 55, 56, 57, 58, 59, 60, 61, 62, 63, 64, 65, 66, 67, 92, 93, 94, 95, 96, 97, 81, 82, 83, 84, 85, 86, 87, 88, 89, 90, 91] (by decide +kernel) (by decide +kernel)
set_option maxRecDepth 20000 in
theorem gX11_day_X5_hearTo : GoodIn wsX11_day (wsV RX11 214 RX5 yX5_hearTo wsX5_hearTo) := goodIn_app (goodIn_of _ (by decide +kernel)) ggX11_day_X5_hearTo
theorem dX11_day_0 : decode cX11_day 0 = .ok (.iload_n 1, 1) := by decide +kernel
theorem dX11_day_1 : decode cX11_day 1 = .ok (.ifCond .lt 32, 3) := by decide +kernel
theorem dX11_day_4 : decode cX11_day 4 = .ok (.iload_n 1, 1) := by decide +kernel
theorem dX11_day_5 : decode cX11_day 5 = .ok (.sipush 9999, 3) := by decide +kernel
theorem dX11_day_8 : decode cX11_day 8 = .ok (.if_icmp .gt 25, 3) := by decide +kernel
theorem dX11_day_11 : decode cX11_day 11 = .ok (.iload_n 2, 1) := by decide +kernel
theorem dX11_day_12 : decode cX11_day 12 = .ok (.iconst 1, 1) := by decide +kernel
theorem dX11_day_13 : decode cX11_day 13 = .ok (.if_icmp .lt 20, 3) := by decide +kernel
theorem dX11_day_16 : decode cX11_day 16 = .ok (.iload_n 2, 1) := by decide +kernel
theorem dX11_day_17 : decode cX11_day 17 = .ok (.bipush 99, 2) := by decide +kernel
theorem dX11_day_19 : decode cX11_day 19 = .ok (.if_icmp .gt 14, 3) := by decide +kernel
theorem dX11_day_22 : decode cX11_day 22 = .ok (.aload_n 0, 1) := by decide +kernel
theorem dX11_day_23 : decode cX11_day 23 = .ok (.getfield 28, 3) := by decide +kernel
theorem dX11_day_26 : decode cX11_day 26 = .ok (.iload_n 3, 1) := by decide +kernel
theorem dX11_day_27 : decode cX11_day 27 = .ok (.invokevirtual 128, 3) := by decide +kernel
theorem dX11_day_30 : decode cX11_day 30 = .ok (.ifCond .ne 5, 3) := by decide +kernel
theorem dX11_day_33 : decode cX11_day 33 = .ok (.iconst (-1), 1) := by decide +kernel
theorem dX11_day_34 : decode cX11_day 34 = .ok (.ireturn, 1) := by decide +kernel
theorem dX11_day_35 : decode cX11_day 35 = .ok (.aload_n 0, 1) := by decide +kernel
theorem dX11_day_36 : decode cX11_day 36 = .ok (.getfield 80, 3) := by decide +kernel
theorem dX11_day_39 : decode cX11_day 39 = .ok (.iconst 0, 1) := by decide +kernel
theorem dX11_day_40 : decode cX11_day 40 = .ok (.putfield 256, 3) := by decide +kernel
theorem dX11_day_43 : decode cX11_day 43 = .ok (.iconst 0, 1) := by decide +kernel
theorem dX11_day_44 : decode cX11_day 44 = .ok (.istore 4, 2) := by decide +kernel
theorem dX11_day_46 : decode cX11_day 46 = .ok (.iconst 0, 1) := by decide +kernel
theorem dX11_day_47 : decode cX11_day 47 = .ok (.istore 5, 2) := by decide +kernel
theorem dX11_day_49 : decode cX11_day 49 = .ok (.iload 5, 2) := by decide +kernel
theorem dX11_day_51 : decode cX11_day 51 = .ok (.iload_n 2, 1) := by decide +kernel
theorem dX11_day_52 : decode cX11_day 52 = .ok (.if_icmp .ge 111, 3) := by decide +kernel
theorem dX11_day_55 : decode cX11_day 55 = .ok (.ldc2_w 257, 3) := by decide +kernel
theorem dX11_day_58 : decode cX11_day 58 = .ok (.iload_n 1, 1) := by decide +kernel
theorem dX11_day_59 : decode cX11_day 59 = .ok (.i2l, 1) := by decide +kernel
theorem dX11_day_60 : decode cX11_day 60 = .ok (.lmul, 1) := by decide +kernel
theorem dX11_day_61 : decode cX11_day 61 = .ok (.ldc2_w 259, 3) := by decide +kernel
theorem dX11_day_64 : decode cX11_day 64 = .ok (.iload 5, 2) := by decide +kernel
theorem dX11_day_66 : decode cX11_day 66 = .ok (.i2l, 1) := by decide +kernel
theorem dX11_day_67 : decode cX11_day 67 = .ok (.lmul, 1) := by decide +kernel
theorem dX11_day_68 : decode cX11_day 68 = .ok (.ladd, 1) := by decide +kernel
theorem dX11_day_69 : decode cX11_day 69 = .ok (.lconst 1, 1) := by decide +kernel
theorem dX11_day_70 : decode cX11_day 70 = .ok (.ladd, 1) := by decide +kernel
theorem dX11_day_71 : decode cX11_day 71 = .ok (.lstore 6, 2) := by decide +kernel
theorem dX11_day_73 : decode cX11_day 73 = .ok (.lload 6, 2) := by decide +kernel
theorem dX11_day_75 : decode cX11_day 75 = .ok (.lload 6, 2) := by decide +kernel
theorem dX11_day_77 : decode cX11_day 77 = .ok (.lmul, 1) := by decide +kernel
theorem dX11_day_78 : decode cX11_day 78 = .ok (.ldc2_w 261, 3) := by decide +kernel
theorem dX11_day_81 : decode cX11_day 81 = .ok (.lrem, 1) := by decide +kernel
theorem dX11_day_82 : decode cX11_day 82 = .ok (.l2i, 1) := by decide +kernel
theorem dX11_day_83 : decode cX11_day 83 = .ok (.istore 8, 2) := by decide +kernel
theorem dX11_day_85 : decode cX11_day 85 = .ok (.iload 4, 2) := by decide +kernel
theorem dX11_day_87 : decode cX11_day 87 = .ok (.iload 5, 2) := by decide +kernel
theorem dX11_day_89 : decode cX11_day 89 = .ok (.ifCond .ne 7, 3) := by decide +kernel
theorem dX11_day_92 : decode cX11_day 92 = .ok (.iconst 0, 1) := by decide +kernel
theorem dX11_day_93 : decode cX11_day 93 = .ok (.goto 10, 3) := by decide +kernel
theorem dX11_day_96 : decode cX11_day 96 = .ok (.iload 8, 2) := by decide +kernel
theorem dX11_day_98 : decode cX11_day 98 = .ok (.bipush 64, 2) := by decide +kernel
theorem dX11_day_100 : decode cX11_day 100 = .ok (.idiv, 1) := by decide +kernel
theorem dX11_day_101 : decode cX11_day 101 = .ok (.iconst 5, 1) := by decide +kernel
theorem dX11_day_102 : decode cX11_day 102 = .ok (.irem, 1) := by decide +kernel
theorem dX11_day_103 : decode cX11_day 103 = .ok (.iadd, 1) := by decide +kernel
theorem dX11_day_104 : decode cX11_day 104 = .ok (.istore 4, 2) := by decide +kernel
theorem dX11_day_106 : decode cX11_day 106 = .ok (.iload 8, 2) := by decide +kernel
theorem dX11_day_108 : decode cX11_day 108 = .ok (.aload_n 0, 1) := by decide +kernel
theorem dX11_day_109 : decode cX11_day 109 = .ok (.getfield 28, 3) := by decide +kernel
theorem dX11_day_112 : decode cX11_day 112 = .ok (.getfield 125, 3) := by decide +kernel
theorem dX11_day_115 : decode cX11_day 115 = .ok (.invokestatic 263, 3) := by decide +kernel
theorem dX11_day_118 : decode cX11_day 118 = .ok (.istore 9, 2) := by decide +kernel
theorem dX11_day_120 : decode cX11_day 120 = .ok (.aload_n 0, 1) := by decide +kernel
theorem dX11_day_121 : decode cX11_day 121 = .ok (.getfield 80, 3) := by decide +kernel
theorem dX11_day_124 : decode cX11_day 124 = .ok (.iload 8, 2) := by decide +kernel
theorem dX11_day_126 : decode cX11_day 126 = .ok (.bipush 8, 2) := by decide +kernel
theorem dX11_day_128 : decode cX11_day 128 = .ok (.idiv, 1) := by decide +kernel
theorem dX11_day_129 : decode cX11_day 129 = .ok (.aload_n 0, 1) := by decide +kernel
theorem dX11_day_130 : decode cX11_day 130 = .ok (.getfield 28, 3) := by decide +kernel
theorem dX11_day_133 : decode cX11_day 133 = .ok (.getfield 250, 3) := by decide +kernel
theorem dX11_day_136 : decode cX11_day 136 = .ok (.invokestatic 263, 3) := by decide +kernel
theorem dX11_day_139 : decode cX11_day 139 = .ok (.iload 4, 2) := by decide +kernel
theorem dX11_day_141 : decode cX11_day 141 = .ok (.iload 4, 2) := by decide +kernel
theorem dX11_day_143 : decode cX11_day 143 = .ok (.aload_n 0, 1) := by decide +kernel
theorem dX11_day_144 : decode cX11_day 144 = .ok (.getfield 28, 3) := by decide +kernel
theorem dX11_day_147 : decode cX11_day 147 = .ok (.iload 9, 2) := by decide +kernel
theorem dX11_day_149 : decode cX11_day 149 = .ok (.iload_n 3, 1) := by decide +kernel
theorem dX11_day_150 : decode cX11_day 150 = .ok (.invokevirtual 132, 3) := by decide +kernel
theorem dX11_day_153 : decode cX11_day 153 = .ok (.iadd, 1) := by decide +kernel
theorem dX11_day_154 : decode cX11_day 154 = .ok (.invokevirtual 266, 3) := by decide +kernel
theorem dX11_day_157 : decode cX11_day 157 = .ok (.iinc 5 1, 3) := by decide +kernel
theorem dX11_day_160 : decode cX11_day 160 = .ok (.goto (-111), 3) := by decide +kernel
theorem dX11_day_163 : decode cX11_day 163 = .ok (.aload_n 0, 1) := by decide +kernel
theorem dX11_day_164 : decode cX11_day 164 = .ok (.getfield 89, 3) := by decide +kernel
theorem dX11_day_167 : decode cX11_day 167 = .ok (.invokevirtual 211, 3) := by decide +kernel
theorem dX11_day_170 : decode cX11_day 170 = .ok (.aload_n 0, 1) := by decide +kernel
theorem dX11_day_171 : decode cX11_day 171 = .ok (.getfield 89, 3) := by decide +kernel
theorem dX11_day_174 : decode cX11_day 174 = .ok (.aload_n 0, 1) := by decide +kernel
theorem dX11_day_175 : decode cX11_day 175 = .ok (.getfield 80, 3) := by decide +kernel
theorem dX11_day_178 : decode cX11_day 178 = .ok (.sipush 9999, 3) := by decide +kernel
theorem dX11_day_181 : decode cX11_day 181 = .ok (.invokevirtual 214, 3) := by decide +kernel
theorem dX11_day_184 : decode cX11_day 184 = .ok (.aload_n 0, 1) := by decide +kernel
theorem dX11_day_185 : decode cX11_day 185 = .ok (.getfield 89, 3) := by decide +kernel
theorem dX11_day_188 : decode cX11_day 188 = .ok (.getfield 184, 3) := by decide +kernel
theorem dX11_day_191 : decode cX11_day 191 = .ok (.ireturn, 1) := by decide +kernel
set_option maxRecDepth 20000 in
theorem ggX11_keep_X0_copyFrom : GoodIn wsX11_keep wsX0_copyFrom := goodIn_r _ [8, 9, 10, 11, 12, 13, 27, 28, 29, 30, 31] (by decide +kernel) (by decide +kernel)
set_option maxRecDepth 20000 in
theorem gX11_keep_X0_copyFrom : GoodIn wsX11_keep (wsV RX11 269 RX0 yX0_copyFrom wsX0_copyFrom) := goodIn_app (goodIn_of _ (by decide +kernel)) ggX11_keep_X0_copyFrom
theorem dX11_keep_0 : decode cX11_keep 0 = .ok (.aload_n 0, 1) := by decide +kernel
theorem dX11_keep_1 : decode cX11_keep 1 = .ok (.getfield 122, 3) := by decide +kernel
theorem dX11_keep_4 : decode cX11_keep 4 = .ok (.iconst 2, 1) := by decide +kernel
theorem dX11_keep_5 : decode cX11_keep 5 = .ok (.if_icmp .lt 6, 3) := by decide +kernel
theorem dX11_keep_8 : decode cX11_keep 8 = .ok (.bipush (-3), 2) := by decide +kernel
theorem dX11_keep_10 : decode cX11_keep 10 = .ok (.ireturn, 1) := by decide +kernel
theorem dX11_keep_11 : decode cX11_keep 11 = .ok (.aload_n 0, 1) := by decide +kernel
theorem dX11_keep_12 : decode cX11_keep 12 = .ok (.getfield 46, 3) := by decide +kernel
theorem dX11_keep_15 : decode cX11_keep 15 = .ok (.aload_n 0, 1) := by decide +kernel
theorem dX11_keep_16 : decode cX11_keep 16 = .ok (.getfield 122, 3) := by decide +kernel
theorem dX11_keep_19 : decode cX11_keep 19 = .ok (.aaload, 1) := by decide +kernel
theorem dX11_keep_20 : decode cX11_keep 20 = .ok (.aload_n 0, 1) := by decide +kernel
theorem dX11_keep_21 : decode cX11_keep 21 = .ok (.getfield 35, 3) := by decide +kernel
theorem dX11_keep_24 : decode cX11_keep 24 = .ok (.invokevirtual 269, 3) := by decide +kernel
theorem dX11_keep_27 : decode cX11_keep 27 = .ok (.aload_n 0, 1) := by decide +kernel
theorem dX11_keep_28 : decode cX11_keep 28 = .ok (.dup, 1) := by decide +kernel
theorem dX11_keep_29 : decode cX11_keep 29 = .ok (.getfield 122, 3) := by decide +kernel
theorem dX11_keep_32 : decode cX11_keep 32 = .ok (.iconst 1, 1) := by decide +kernel
theorem dX11_keep_33 : decode cX11_keep 33 = .ok (.iadd, 1) := by decide +kernel
theorem dX11_keep_34 : decode cX11_keep 34 = .ok (.putfield 122, 3) := by decide +kernel
theorem dX11_keep_37 : decode cX11_keep 37 = .ok (.aload_n 0, 1) := by decide +kernel
theorem dX11_keep_38 : decode cX11_keep 38 = .ok (.getfield 122, 3) := by decide +kernel
theorem dX11_keep_41 : decode cX11_keep 41 = .ok (.ireturn, 1) := by decide +kernel
set_option maxRecDepth 20000 in
theorem ggX11_back_X0_copyFrom : GoodIn wsX11_back wsX0_copyFrom := goodIn_r _ [10, 11, 12, 13, 14, 15, 31, 32, 33, 34, 35] (by decide +kernel) (by decide +kernel)
set_option maxRecDepth 20000 in
theorem gX11_back_X0_copyFrom : GoodIn wsX11_back (wsV RX11 269 RX0 yX0_copyFrom wsX0_copyFrom) := goodIn_app (goodIn_of _ (by decide +kernel)) ggX11_back_X0_copyFrom
theorem dX11_back_0 : decode cX11_back 0 = .ok (.aload_n 0, 1) := by decide +kernel
theorem dX11_back_1 : decode cX11_back 1 = .ok (.getfield 122, 3) := by decide +kernel
theorem dX11_back_4 : decode cX11_back 4 = .ok (.iconst 1, 1) := by decide +kernel
theorem dX11_back_5 : decode cX11_back 5 = .ok (.if_icmp .ge 6, 3) := by decide +kernel
theorem dX11_back_8 : decode cX11_back 8 = .ok (.bipush (-2), 2) := by decide +kernel
theorem dX11_back_10 : decode cX11_back 10 = .ok (.ireturn, 1) := by decide +kernel
theorem dX11_back_11 : decode cX11_back 11 = .ok (.aload_n 0, 1) := by decide +kernel
theorem dX11_back_12 : decode cX11_back 12 = .ok (.dup, 1) := by decide +kernel
theorem dX11_back_13 : decode cX11_back 13 = .ok (.getfield 122, 3) := by decide +kernel
theorem dX11_back_16 : decode cX11_back 16 = .ok (.iconst 1, 1) := by decide +kernel
theorem dX11_back_17 : decode cX11_back 17 = .ok (.isub, 1) := by decide +kernel
theorem dX11_back_18 : decode cX11_back 18 = .ok (.putfield 122, 3) := by decide +kernel
theorem dX11_back_21 : decode cX11_back 21 = .ok (.aload_n 0, 1) := by decide +kernel
theorem dX11_back_22 : decode cX11_back 22 = .ok (.getfield 35, 3) := by decide +kernel
theorem dX11_back_25 : decode cX11_back 25 = .ok (.aload_n 0, 1) := by decide +kernel
theorem dX11_back_26 : decode cX11_back 26 = .ok (.getfield 46, 3) := by decide +kernel
theorem dX11_back_29 : decode cX11_back 29 = .ok (.aload_n 0, 1) := by decide +kernel
theorem dX11_back_30 : decode cX11_back 30 = .ok (.getfield 122, 3) := by decide +kernel
theorem dX11_back_33 : decode cX11_back 33 = .ok (.aaload, 1) := by decide +kernel
theorem dX11_back_34 : decode cX11_back 34 = .ok (.invokevirtual 269, 3) := by decide +kernel
theorem dX11_back_37 : decode cX11_back 37 = .ok (.aload_n 0, 1) := by decide +kernel
theorem dX11_back_38 : decode cX11_back 38 = .ok (.getfield 42, 3) := by decide +kernel
theorem dX11_back_41 : decode cX11_back 41 = .ok (.iconst 0, 1) := by decide +kernel
theorem dX11_back_42 : decode cX11_back 42 = .ok (.putfield 121, 3) := by decide +kernel
theorem dX11_back_45 : decode cX11_back 45 = .ok (.aload_n 0, 1) := by decide +kernel
theorem dX11_back_46 : decode cX11_back 46 = .ok (.getfield 122, 3) := by decide +kernel
theorem dX11_back_49 : decode cX11_back 49 = .ok (.ireturn, 1) := by decide +kernel
theorem dX11_count_0 : decode cX11_count 0 = .ok (.iload_n 1, 1) := by decide +kernel
theorem dX11_count_1 : decode cX11_count 1 = .ok (.tableswitch 135 0 9 #[55, 63, 71, 82, 90, 98, 106, 114, 122, 127], 55) := by decide +kernel
theorem dX11_count_56 : decode cX11_count 56 = .ok (.aload_n 0, 1) := by decide +kernel
theorem dX11_count_57 : decode cX11_count 57 = .ok (.getfield 28, 3) := by decide +kernel
theorem dX11_count_60 : decode cX11_count 60 = .ok (.getfield 125, 3) := by decide +kernel
theorem dX11_count_63 : decode cX11_count 63 = .ok (.ireturn, 1) := by decide +kernel
theorem dX11_count_64 : decode cX11_count 64 = .ok (.aload_n 0, 1) := by decide +kernel
theorem dX11_count_65 : decode cX11_count 65 = .ok (.getfield 28, 3) := by decide +kernel
theorem dX11_count_68 : decode cX11_count 68 = .ok (.getfield 250, 3) := by decide +kernel
theorem dX11_count_71 : decode cX11_count 71 = .ok (.ireturn, 1) := by decide +kernel
theorem dX11_count_72 : decode cX11_count 72 = .ok (.aload_n 0, 1) := by decide +kernel
theorem dX11_count_73 : decode cX11_count 73 = .ok (.getfield 28, 3) := by decide +kernel
theorem dX11_count_76 : decode cX11_count 76 = .ok (.getfield 136, 3) := by decide +kernel
theorem dX11_count_79 : decode cX11_count 79 = .ok (.getfield 272, 3) := by decide +kernel
theorem dX11_count_82 : decode cX11_count 82 = .ok (.ireturn, 1) := by decide +kernel
theorem dX11_count_83 : decode cX11_count 83 = .ok (.aload_n 0, 1) := by decide +kernel
theorem dX11_count_84 : decode cX11_count 84 = .ok (.getfield 35, 3) := by decide +kernel
theorem dX11_count_87 : decode cX11_count 87 = .ok (.getfield 115, 3) := by decide +kernel
theorem dX11_count_90 : decode cX11_count 90 = .ok (.ireturn, 1) := by decide +kernel
theorem dX11_count_91 : decode cX11_count 91 = .ok (.aload_n 0, 1) := by decide +kernel
theorem dX11_count_92 : decode cX11_count 92 = .ok (.getfield 35, 3) := by decide +kernel
theorem dX11_count_95 : decode cX11_count 95 = .ok (.getfield 116, 3) := by decide +kernel
theorem dX11_count_98 : decode cX11_count 98 = .ok (.ireturn, 1) := by decide +kernel
theorem dX11_count_99 : decode cX11_count 99 = .ok (.aload_n 0, 1) := by decide +kernel
theorem dX11_count_100 : decode cX11_count 100 = .ok (.getfield 55, 3) := by decide +kernel
theorem dX11_count_103 : decode cX11_count 103 = .ok (.getfield 119, 3) := by decide +kernel
theorem dX11_count_106 : decode cX11_count 106 = .ok (.ireturn, 1) := by decide +kernel
theorem dX11_count_107 : decode cX11_count 107 = .ok (.aload_n 0, 1) := by decide +kernel
theorem dX11_count_108 : decode cX11_count 108 = .ok (.getfield 64, 3) := by decide +kernel
theorem dX11_count_111 : decode cX11_count 111 = .ok (.getfield 120, 3) := by decide +kernel
theorem dX11_count_114 : decode cX11_count 114 = .ok (.ireturn, 1) := by decide +kernel
theorem dX11_count_115 : decode cX11_count 115 = .ok (.aload_n 0, 1) := by decide +kernel
theorem dX11_count_116 : decode cX11_count 116 = .ok (.getfield 42, 3) := by decide +kernel
theorem dX11_count_119 : decode cX11_count 119 = .ok (.getfield 121, 3) := by decide +kernel
theorem dX11_count_122 : decode cX11_count 122 = .ok (.ireturn, 1) := by decide +kernel
theorem dX11_count_123 : decode cX11_count 123 = .ok (.aload_n 0, 1) := by decide +kernel
theorem dX11_count_124 : decode cX11_count 124 = .ok (.getfield 122, 3) := by decide +kernel
theorem dX11_count_127 : decode cX11_count 127 = .ok (.ireturn, 1) := by decide +kernel
theorem dX11_count_128 : decode cX11_count 128 = .ok (.aload_n 0, 1) := by decide +kernel
theorem dX11_count_129 : decode cX11_count 129 = .ok (.getfield 10, 3) := by decide +kernel
theorem dX11_count_132 : decode cX11_count 132 = .ok (.getfield 100, 3) := by decide +kernel
theorem dX11_count_135 : decode cX11_count 135 = .ok (.ireturn, 1) := by decide +kernel
theorem dX11_count_136 : decode cX11_count 136 = .ok (.iconst (-1), 1) := by decide +kernel
theorem dX11_count_137 : decode cX11_count 137 = .ok (.ireturn, 1) := by decide +kernel
theorem dX11_isMinute_0 : decode cX11_isMinute 0 = .ok (.iload_n 0, 1) := by decide +kernel
theorem dX11_isMinute_1 : decode cX11_isMinute 1 = .ok (.ifCond .lt 14, 3) := by decide +kernel
theorem dX11_isMinute_4 : decode cX11_isMinute 4 = .ok (.iload_n 0, 1) := by decide +kernel
theorem dX11_isMinute_5 : decode cX11_isMinute 5 = .ok (.sipush 9999, 3) := by decide +kernel
theorem dX11_isMinute_8 : decode cX11_isMinute 8 = .ok (.if_icmp .gt 7, 3) := by decide +kernel
theorem dX11_isMinute_11 : decode cX11_isMinute 11 = .ok (.iconst 1, 1) := by decide +kernel
theorem dX11_isMinute_12 : decode cX11_isMinute 12 = .ok (.goto 4, 3) := by decide +kernel
theorem dX11_isMinute_15 : decode cX11_isMinute 15 = .ok (.iconst 0, 1) := by decide +kernel
theorem dX11_isMinute_16 : decode cX11_isMinute 16 = .ok (.ireturn, 1) := by decide +kernel
set_option maxRecDepth 20000 in
theorem ggX11_standAt_X3_fillFrom : GoodIn wsX11_standAt wsX3_fillFrom := goodIn_r _ [9, 10, 11, 12, 13, 14, 15, 16, 17, 18, 19, 20, 21, 22, 23, 24, 25, 26, 27, 28, 8, 29, 30, 31, 32, 78, 79, 80, 81, 82, 83, 84, 85, 86, 87, 88, 89, 90, 91, 92, 93] (by decide +kernel) (by decide +kernel)
set_option maxRecDepth 20000 in
theorem gX11_standAt_X3_fillFrom : GoodIn wsX11_standAt (wsV RX11 207 RX3 yX3_fillFrom wsX3_fillFrom) := goodIn_app (goodIn_of _ (by decide +kernel)) ggX11_standAt_X3_fillFrom
set_option maxRecDepth 20000 in
theorem ggX11_standAt_X5_empty : GoodIn wsX11_standAt wsX5_empty := goodIn_r _ [37, 38, 39, 94, 95, 96, 97, 98, 99] (by decide +kernel) (by decide +kernel)
set_option maxRecDepth 20000 in
theorem gX11_standAt_X5_empty : GoodIn wsX11_standAt (wsV RX11 211 RX5 yX5_empty wsX5_empty) := goodIn_app (goodIn_of _ (by decide +kernel)) ggX11_standAt_X5_empty
set_option maxRecDepth 20000 in
theorem ggX11_standAt_X5_hearTo : GoodIn wsX11_standAt wsX5_hearTo := goodIn_r _ [43, 39, 44, 45, 46, 47, 48, 49, 36, 50, 38, 51, 52, 53, 54, 55, 56, 57, 58, 59, 60, 61, 62, 63, 64, 94, 95, 96, 97, 98, 99, 78, 79, 80, 81, 87, 88, 89, 90, 91, 92, 93] (by decide +kernel) (by decide +kernel)
set_option maxRecDepth 20000 in
theorem gX11_standAt_X5_hearTo : GoodIn wsX11_standAt (wsV RX11 214 RX5 yX5_hearTo wsX5_hearTo) := goodIn_app (goodIn_of _ (by decide +kernel)) ggX11_standAt_X5_hearTo
theorem dX11_standAt_0 : decode cX11_standAt 0 = .ok (.aload_n 0, 1) := by decide +kernel
theorem dX11_standAt_1 : decode cX11_standAt 1 = .ok (.getfield 80, 3) := by decide +kernel
theorem dX11_standAt_4 : decode cX11_standAt 4 = .ok (.aload_n 0, 1) := by decide +kernel
theorem dX11_standAt_5 : decode cX11_standAt 5 = .ok (.getfield 35, 3) := by decide +kernel
theorem dX11_standAt_8 : decode cX11_standAt 8 = .ok (.aload_n 0, 1) := by decide +kernel
theorem dX11_standAt_9 : decode cX11_standAt 9 = .ok (.getfield 28, 3) := by decide +kernel
theorem dX11_standAt_12 : decode cX11_standAt 12 = .ok (.iload_n 1, 1) := by decide +kernel
theorem dX11_standAt_13 : decode cX11_standAt 13 = .ok (.invokevirtual 207, 3) := by decide +kernel
theorem dX11_standAt_16 : decode cX11_standAt 16 = .ok (.aload_n 0, 1) := by decide +kernel
theorem dX11_standAt_17 : decode cX11_standAt 17 = .ok (.getfield 89, 3) := by decide +kernel
theorem dX11_standAt_20 : decode cX11_standAt 20 = .ok (.invokevirtual 211, 3) := by decide +kernel
theorem dX11_standAt_23 : decode cX11_standAt 23 = .ok (.aload_n 0, 1) := by decide +kernel
theorem dX11_standAt_24 : decode cX11_standAt 24 = .ok (.getfield 89, 3) := by decide +kernel
theorem dX11_standAt_27 : decode cX11_standAt 27 = .ok (.aload_n 0, 1) := by decide +kernel
theorem dX11_standAt_28 : decode cX11_standAt 28 = .ok (.getfield 80, 3) := by decide +kernel
theorem dX11_standAt_31 : decode cX11_standAt 31 = .ok (.iload_n 2, 1) := by decide +kernel
theorem dX11_standAt_32 : decode cX11_standAt 32 = .ok (.invokevirtual 214, 3) := by decide +kernel
theorem dX11_standAt_35 : decode cX11_standAt 35 = .ok (.return_, 1) := by decide +kernel
set_option maxRecDepth 20000 in
theorem ggX11_goesBy_X2_minutesBetween : GoodIn wsX11_goesBy wsX2_minutesBetween := goodIn_r _ [10, 11, 12, 13, 14, 9, 15, 16, 72, 73, 74, 75, 76, 77, 78] (by decide +kernel) (by decide +kernel)
set_option maxRecDepth 20000 in
theorem gX11_goesBy_X2_minutesBetween : GoodIn wsX11_goesBy (wsV RX11 132 RX2 yX2_minutesBetween wsX2_minutesBetween) := goodIn_app (goodIn_of _ (by decide +kernel)) ggX11_goesBy_X2_minutesBetween
set_option maxRecDepth 20000 in
theorem ggX11_goesBy_X5_empty : GoodIn wsX11_goesBy wsX5_empty := goodIn_r _ [21, 22, 23, 79, 80, 81, 82, 83, 84] (by decide +kernel) (by decide +kernel)
set_option maxRecDepth 20000 in
theorem gX11_goesBy_X5_empty : GoodIn wsX11_goesBy (wsV RX11 211 RX5 yX5_empty wsX5_empty) := goodIn_app (goodIn_of _ (by decide +kernel)) ggX11_goesBy_X5_empty
set_option maxRecDepth 20000 in
theorem ggX11_goesBy_X5_hearTo : GoodIn wsX11_goesBy wsX5_hearTo := goodIn_r _ [27, 23, 28, 29, 30, 31, 32, 33, 20, 34, 22, 35, 36, 37, 38, 39, 40, 41, 42, 43, 44, 45, 46, 47, 48, 79, 80, 81, 82, 83, 84, 85, 86, 87, 88, 72, 73, 74, 75, 76, 77, 78] (by decide +kernel) (by decide +kernel)
set_option maxRecDepth 20000 in
theorem gX11_goesBy_X5_hearTo : GoodIn wsX11_goesBy (wsV RX11 214 RX5 yX5_hearTo wsX5_hearTo) := goodIn_app (goodIn_of _ (by decide +kernel)) ggX11_goesBy_X5_hearTo
set_option maxRecDepth 20000 in
theorem ggX11_goesBy_X5_holdsMark : GoodIn wsX11_goesBy wsX5_holdsMark := goodIn_r _ [52, 22, 36, 79, 80, 81, 82, 83, 84] (by decide +kernel) (by decide +kernel)
set_option maxRecDepth 20000 in
theorem gX11_goesBy_X5_holdsMark : GoodIn wsX11_goesBy (wsV RX11 273 RX5 yX5_holdsMark wsX5_holdsMark) := goodIn_app (goodIn_of _ (by decide +kernel)) ggX11_goesBy_X5_holdsMark
set_option maxRecDepth 20000 in
theorem ggX11_goesBy_X5_hear : GoodIn wsX11_goesBy wsX5_hear := goodIn_r _ [34, 22, 35, 36, 37, 38, 39, 40, 20, 41, 42, 43, 44, 45, 46, 47, 48, 79, 80, 81, 82, 83, 84, 72, 73, 74, 75, 76, 77, 78] (by decide +kernel) (by decide +kernel)
set_option maxRecDepth 20000 in
theorem gX11_goesBy_X5_hear : GoodIn wsX11_goesBy (wsV RX11 221 RX5 yX5_hear wsX5_hear) := goodIn_app (goodIn_of _ (by decide +kernel)) ggX11_goesBy_X5_hear
theorem dX11_goesBy_0 : decode cX11_goesBy 0 = .ok (.aload_n 0, 1) := by decide +kernel
theorem dX11_goesBy_1 : decode cX11_goesBy 1 = .ok (.getfield 35, 3) := by decide +kernel
theorem dX11_goesBy_4 : decode cX11_goesBy 4 = .ok (.getfield 116, 3) := by decide +kernel
theorem dX11_goesBy_7 : decode cX11_goesBy 7 = .ok (.aload_n 0, 1) := by decide +kernel
theorem dX11_goesBy_8 : decode cX11_goesBy 8 = .ok (.getfield 28, 3) := by decide +kernel
theorem dX11_goesBy_11 : decode cX11_goesBy 11 = .ok (.iload_n 2, 1) := by decide +kernel
theorem dX11_goesBy_12 : decode cX11_goesBy 12 = .ok (.iload_n 1, 1) := by decide +kernel
theorem dX11_goesBy_13 : decode cX11_goesBy 13 = .ok (.invokevirtual 132, 3) := by decide +kernel
theorem dX11_goesBy_16 : decode cX11_goesBy 16 = .ok (.iadd, 1) := by decide +kernel
theorem dX11_goesBy_17 : decode cX11_goesBy 17 = .ok (.istore 5, 2) := by decide +kernel
theorem dX11_goesBy_19 : decode cX11_goesBy 19 = .ok (.aload_n 0, 1) := by decide +kernel
theorem dX11_goesBy_20 : decode cX11_goesBy 20 = .ok (.getfield 93, 3) := by decide +kernel
theorem dX11_goesBy_23 : decode cX11_goesBy 23 = .ok (.invokevirtual 211, 3) := by decide +kernel
theorem dX11_goesBy_26 : decode cX11_goesBy 26 = .ok (.aload_n 0, 1) := by decide +kernel
theorem dX11_goesBy_27 : decode cX11_goesBy 27 = .ok (.getfield 93, 3) := by decide +kernel
theorem dX11_goesBy_30 : decode cX11_goesBy 30 = .ok (.aload_n 0, 1) := by decide +kernel
theorem dX11_goesBy_31 : decode cX11_goesBy 31 = .ok (.getfield 80, 3) := by decide +kernel
theorem dX11_goesBy_34 : decode cX11_goesBy 34 = .ok (.iload 5, 2) := by decide +kernel
theorem dX11_goesBy_36 : decode cX11_goesBy 36 = .ok (.invokevirtual 214, 3) := by decide +kernel
theorem dX11_goesBy_39 : decode cX11_goesBy 39 = .ok (.aload_n 0, 1) := by decide +kernel
theorem dX11_goesBy_40 : decode cX11_goesBy 40 = .ok (.getfield 93, 3) := by decide +kernel
theorem dX11_goesBy_43 : decode cX11_goesBy 43 = .ok (.iload 4, 2) := by decide +kernel
theorem dX11_goesBy_45 : decode cX11_goesBy 45 = .ok (.invokevirtual 273, 3) := by decide +kernel
theorem dX11_goesBy_48 : decode cX11_goesBy 48 = .ok (.ifCond .ne 5, 3) := by decide +kernel
theorem dX11_goesBy_51 : decode cX11_goesBy 51 = .ok (.iconst 0, 1) := by decide +kernel
theorem dX11_goesBy_52 : decode cX11_goesBy 52 = .ok (.ireturn, 1) := by decide +kernel
theorem dX11_goesBy_53 : decode cX11_goesBy 53 = .ok (.aload_n 0, 1) := by decide +kernel
theorem dX11_goesBy_54 : decode cX11_goesBy 54 = .ok (.getfield 93, 3) := by decide +kernel
theorem dX11_goesBy_57 : decode cX11_goesBy 57 = .ok (.iload_n 3, 1) := by decide +kernel
theorem dX11_goesBy_58 : decode cX11_goesBy 58 = .ok (.iload 5, 2) := by decide +kernel
theorem dX11_goesBy_60 : decode cX11_goesBy 60 = .ok (.iconst (-1), 1) := by decide +kernel
theorem dX11_goesBy_61 : decode cX11_goesBy 61 = .ok (.invokevirtual 221, 3) := by decide +kernel
theorem dX11_goesBy_64 : decode cX11_goesBy 64 = .ok (.aload_n 0, 1) := by decide +kernel
theorem dX11_goesBy_65 : decode cX11_goesBy 65 = .ok (.getfield 93, 3) := by decide +kernel
theorem dX11_goesBy_68 : decode cX11_goesBy 68 = .ok (.iload 4, 2) := by decide +kernel
theorem dX11_goesBy_70 : decode cX11_goesBy 70 = .ok (.invokevirtual 273, 3) := by decide +kernel
theorem dX11_goesBy_73 : decode cX11_goesBy 73 = .ok (.ifCond .ne 7, 3) := by decide +kernel
theorem dX11_goesBy_76 : decode cX11_goesBy 76 = .ok (.iconst 1, 1) := by decide +kernel
theorem dX11_goesBy_77 : decode cX11_goesBy 77 = .ok (.goto 4, 3) := by decide +kernel
theorem dX11_goesBy_80 : decode cX11_goesBy 80 = .ok (.iconst 0, 1) := by decide +kernel
theorem dX11_goesBy_81 : decode cX11_goesBy 81 = .ok (.ireturn, 1) := by decide +kernel
set_option maxRecDepth 20000 in
theorem ggX11_goesBySome_X11_goesBy : GoodIn wsX11_goesBySome wsX11_goesBy := goodIn_r _ [7, 8, 9, 1, 10, 11, 12, 13, 14, 15, 16, 17, 18, 19, 20, 21, 22, 23, 24, 25, 26, 27, 28, 29, 30, 31, 32, 33, 34, 35, 36, 37, 38, 39, 40, 41, 42, 43, 44, 45, 46, 47, 48, 49, 50, 51, 52, 53, 54, 55, 56, 57, 58, 59, 60, 61, 62, 63, 64, 65, 66, 67, 68, 69, 70, 71, 72, 80, 81, 82, 83, 84, 73, 74, 75, 76, 77, 78, 79, 85, 86, 87, 88, 89, 90, 91, 92, 93, 94] (by decide +kernel) (by decide +kernel)
set_option maxRecDepth 20000 in
theorem gX11_goesBySome_X11_goesBy : GoodIn wsX11_goesBySome (wsV RX11 197 RX11 yX11_goesBy wsX11_goesBy) := goodIn_app (goodIn_of _ (by decide +kernel)) ggX11_goesBySome_X11_goesBy
theorem dX11_goesBySome_0 : decode cX11_goesBySome 0 = .ok (.iconst 0, 1) := by decide +kernel
theorem dX11_goesBySome_1 : decode cX11_goesBySome 1 = .ok (.istore 4, 2) := by decide +kernel
theorem dX11_goesBySome_3 : decode cX11_goesBySome 3 = .ok (.iload 4, 2) := by decide +kernel
theorem dX11_goesBySome_5 : decode cX11_goesBySome 5 = .ok (.aload_n 0, 1) := by decide +kernel
theorem dX11_goesBySome_6 : decode cX11_goesBySome 6 = .ok (.getfield 28, 3) := by decide +kernel
theorem dX11_goesBySome_9 : decode cX11_goesBySome 9 = .ok (.getfield 125, 3) := by decide +kernel
theorem dX11_goesBySome_12 : decode cX11_goesBySome 12 = .ok (.if_icmp .ge 23, 3) := by decide +kernel
theorem dX11_goesBySome_15 : decode cX11_goesBySome 15 = .ok (.aload_n 0, 1) := by decide +kernel
theorem dX11_goesBySome_16 : decode cX11_goesBySome 16 = .ok (.iload_n 1, 1) := by decide +kernel
theorem dX11_goesBySome_17 : decode cX11_goesBySome 17 = .ok (.iload 4, 2) := by decide +kernel
theorem dX11_goesBySome_19 : decode cX11_goesBySome 19 = .ok (.iload_n 2, 1) := by decide +kernel
theorem dX11_goesBySome_20 : decode cX11_goesBySome 20 = .ok (.iload_n 3, 1) := by decide +kernel
theorem dX11_goesBySome_21 : decode cX11_goesBySome 21 = .ok (.invokevirtual 197, 3) := by decide +kernel
theorem dX11_goesBySome_24 : decode cX11_goesBySome 24 = .ok (.ifCond .eq 5, 3) := by decide +kernel
theorem dX11_goesBySome_27 : decode cX11_goesBySome 27 = .ok (.iconst 1, 1) := by decide +kernel
theorem dX11_goesBySome_28 : decode cX11_goesBySome 28 = .ok (.ireturn, 1) := by decide +kernel
theorem dX11_goesBySome_29 : decode cX11_goesBySome 29 = .ok (.iinc 4 1, 3) := by decide +kernel
theorem dX11_goesBySome_32 : decode cX11_goesBySome 32 = .ok (.goto (-29), 3) := by decide +kernel
theorem dX11_goesBySome_35 : decode cX11_goesBySome 35 = .ok (.iconst 0, 1) := by decide +kernel
theorem dX11_goesBySome_36 : decode cX11_goesBySome 36 = .ok (.ireturn, 1) := by decide +kernel
theorem dX11_restOf_0 : decode cX11_restOf 0 = .ok (.iload_n 1, 1) := by decide +kernel
theorem dX11_restOf_1 : decode cX11_restOf 1 = .ok (.ifCond .le 9, 3) := by decide +kernel
theorem dX11_restOf_4 : decode cX11_restOf 4 = .ok (.iload_n 0, 1) := by decide +kernel
theorem dX11_restOf_5 : decode cX11_restOf 5 = .ok (.iload_n 1, 1) := by decide +kernel
theorem dX11_restOf_6 : decode cX11_restOf 6 = .ok (.irem, 1) := by decide +kernel
theorem dX11_restOf_7 : decode cX11_restOf 7 = .ok (.goto 4, 3) := by decide +kernel
theorem dX11_restOf_10 : decode cX11_restOf 10 = .ok (.iconst 0, 1) := by decide +kernel
theorem dX11_restOf_11 : decode cX11_restOf 11 = .ok (.ireturn, 1) := by decide +kernel
theorem dX11_commonDivisor_0 : decode cX11_commonDivisor 0 = .ok (.iload_n 0, 1) := by decide +kernel
theorem dX11_commonDivisor_1 : decode cX11_commonDivisor 1 = .ok (.istore_n 2, 1) := by decide +kernel
theorem dX11_commonDivisor_2 : decode cX11_commonDivisor 2 = .ok (.iload_n 1, 1) := by decide +kernel
theorem dX11_commonDivisor_3 : decode cX11_commonDivisor 3 = .ok (.istore_n 3, 1) := by decide +kernel
theorem dX11_commonDivisor_4 : decode cX11_commonDivisor 4 = .ok (.iconst 0, 1) := by decide +kernel
theorem dX11_commonDivisor_5 : decode cX11_commonDivisor 5 = .ok (.istore 4, 2) := by decide +kernel
theorem dX11_commonDivisor_7 : decode cX11_commonDivisor 7 = .ok (.iload 4, 2) := by decide +kernel
theorem dX11_commonDivisor_9 : decode cX11_commonDivisor 9 = .ok (.bipush 64, 2) := by decide +kernel
theorem dX11_commonDivisor_11 : decode cX11_commonDivisor 11 = .ok (.if_icmp .ge 23, 3) := by decide +kernel
theorem dX11_commonDivisor_14 : decode cX11_commonDivisor 14 = .ok (.iload_n 3, 1) := by decide +kernel
theorem dX11_commonDivisor_15 : decode cX11_commonDivisor 15 = .ok (.ifCond .eq 19, 3) := by decide +kernel
theorem dX11_commonDivisor_18 : decode cX11_commonDivisor 18 = .ok (.iload_n 2, 1) := by decide +kernel
theorem dX11_commonDivisor_19 : decode cX11_commonDivisor 19 = .ok (.iload_n 3, 1) := by decide +kernel
theorem dX11_commonDivisor_20 : decode cX11_commonDivisor 20 = .ok (.irem, 1) := by decide +kernel
theorem dX11_commonDivisor_21 : decode cX11_commonDivisor 21 = .ok (.istore 5, 2) := by decide +kernel
theorem dX11_commonDivisor_23 : decode cX11_commonDivisor 23 = .ok (.iload_n 3, 1) := by decide +kernel
theorem dX11_commonDivisor_24 : decode cX11_commonDivisor 24 = .ok (.istore_n 2, 1) := by decide +kernel
theorem dX11_commonDivisor_25 : decode cX11_commonDivisor 25 = .ok (.iload 5, 2) := by decide +kernel
theorem dX11_commonDivisor_27 : decode cX11_commonDivisor 27 = .ok (.istore_n 3, 1) := by decide +kernel
theorem dX11_commonDivisor_28 : decode cX11_commonDivisor 28 = .ok (.iinc 4 1, 3) := by decide +kernel
theorem dX11_commonDivisor_31 : decode cX11_commonDivisor 31 = .ok (.goto (-24), 3) := by decide +kernel
theorem dX11_commonDivisor_34 : decode cX11_commonDivisor 34 = .ok (.iload_n 2, 1) := by decide +kernel
theorem dX11_commonDivisor_35 : decode cX11_commonDivisor 35 = .ok (.ireturn, 1) := by decide +kernel
set_option maxRecDepth 20000 in
theorem ggX12_init_X12_reads : GoodIn wsX12_init wsX12_reads := goodIn_r _ [26, 7, 27, 28, 29, 30, 25, 31, 32, 33, 34, 35, 36, 37, 38, 39, 5, 40, 41, 42, 43, 13, 44, 45, 46, 47, 48, 49, 50, 51, 52, 53, 54, 55, 56, 57, 58, 59, 60, 61, 62, 63, 72, 73, 74, 75, 76, 77, 78, 79, 80, 81, 82, 83, 84, 85, 86, 87, 88, 89, 90, 91, 92, 93, 94, 95] (by decide +kernel) (by decide +kernel)
set_option maxRecDepth 20000 in
theorem gX12_init_X12_reads : GoodIn wsX12_init (wsV RX12 59 RX12 yX12_reads wsX12_reads) := goodIn_app (goodIn_of _ (by decide +kernel)) ggX12_init_X12_reads
set_option maxRecDepth 20000 in
theorem ggX12_init_X12_lays : GoodIn wsX12_init wsX12_lays := goodIn_r _ [67, 6, 7, 8, 68, 69, 70, 71, 72, 73, 74, 75, 76, 77, 78, 79, 80, 81, 82, 83, 84, 85, 86, 87, 88, 89, 90, 91, 92, 93, 94, 95] (by decide +kernel) (by decide +kernel)
set_option maxRecDepth 20000 in
theorem gX12_init_X12_lays : GoodIn wsX12_init (wsV RX12 63 RX12 yX12_lays wsX12_lays) := goodIn_app (goodIn_of _ (by decide +kernel)) ggX12_init_X12_lays
theorem dX12_init_0 : decode cX12_init 0 = .ok (.aload_n 0, 1) := by decide +kernel
theorem dX12_init_1 : decode cX12_init 1 = .ok (.invokespecial 1, 3) := by decide +kernel
theorem dX12_init_4 : decode cX12_init 4 = .ok (.aload_n 0, 1) := by decide +kernel
theorem dX12_init_5 : decode cX12_init 5 = .ok (.sipush 300, 3) := by decide +kernel
theorem dX12_init_8 : decode cX12_init 8 = .ok (.newarray .int, 2) := by decide +kernel
theorem dX12_init_10 : decode cX12_init 10 = .ok (.putfield 7, 3) := by decide +kernel
theorem dX12_init_13 : decode cX12_init 13 = .ok (.aload_n 0, 1) := by decide +kernel
theorem dX12_init_14 : decode cX12_init 14 = .ok (.bipush 78, 2) := by decide +kernel
theorem dX12_init_16 : decode cX12_init 16 = .ok (.newarray .int, 2) := by decide +kernel
theorem dX12_init_18 : decode cX12_init 18 = .ok (.putfield 13, 3) := by decide +kernel
theorem dX12_init_21 : decode cX12_init 21 = .ok (.aload_n 0, 1) := by decide +kernel
theorem dX12_init_22 : decode cX12_init 22 = .ok (.bipush 78, 2) := by decide +kernel
theorem dX12_init_24 : decode cX12_init 24 = .ok (.newarray .int, 2) := by decide +kernel
theorem dX12_init_26 : decode cX12_init 26 = .ok (.putfield 16, 3) := by decide +kernel
theorem dX12_init_29 : decode cX12_init 29 = .ok (.aload_n 0, 1) := by decide +kernel
theorem dX12_init_30 : decode cX12_init 30 = .ok (.bipush 74, 2) := by decide +kernel
theorem dX12_init_32 : decode cX12_init 32 = .ok (.newarray .int, 2) := by decide +kernel
theorem dX12_init_34 : decode cX12_init 34 = .ok (.putfield 19, 3) := by decide +kernel
theorem dX12_init_37 : decode cX12_init 37 = .ok (.aload_n 0, 1) := by decide +kernel
theorem dX12_init_38 : decode cX12_init 38 = .ok (.sipush 148, 3) := by decide +kernel
theorem dX12_init_41 : decode cX12_init 41 = .ok (.newarray .int, 2) := by decide +kernel
theorem dX12_init_43 : decode cX12_init 43 = .ok (.putfield 22, 3) := by decide +kernel
theorem dX12_init_46 : decode cX12_init 46 = .ok (.aload_n 0, 1) := by decide +kernel
theorem dX12_init_47 : decode cX12_init 47 = .ok (.bipush 8, 2) := by decide +kernel
theorem dX12_init_49 : decode cX12_init 49 = .ok (.newarray .int, 2) := by decide +kernel
theorem dX12_init_51 : decode cX12_init 51 = .ok (.putfield 25, 3) := by decide +kernel
theorem dX12_init_54 : decode cX12_init 54 = .ok (.aload_n 0, 1) := by decide +kernel
theorem dX12_init_55 : decode cX12_init 55 = .ok (.bipush 8, 2) := by decide +kernel
theorem dX12_init_57 : decode cX12_init 57 = .ok (.newarray .int, 2) := by decide +kernel
theorem dX12_init_59 : decode cX12_init 59 = .ok (.putfield 28, 3) := by decide +kernel
theorem dX12_init_62 : decode cX12_init 62 = .ok (.aload_n 0, 1) := by decide +kernel
theorem dX12_init_63 : decode cX12_init 63 = .ok (.bipush 30, 2) := by decide +kernel
theorem dX12_init_65 : decode cX12_init 65 = .ok (.newarray .int, 2) := by decide +kernel
theorem dX12_init_67 : decode cX12_init 67 = .ok (.putfield 31, 3) := by decide +kernel
theorem dX12_init_70 : decode cX12_init 70 = .ok (.aload_n 0, 1) := by decide +kernel
theorem dX12_init_71 : decode cX12_init 71 = .ok (.iconst 3, 1) := by decide +kernel
theorem dX12_init_72 : decode cX12_init 72 = .ok (.newarray .int, 2) := by decide +kernel
theorem dX12_init_74 : decode cX12_init 74 = .ok (.putfield 34, 3) := by decide +kernel
theorem dX12_init_77 : decode cX12_init 77 = .ok (.aload_n 0, 1) := by decide +kernel
theorem dX12_init_78 : decode cX12_init 78 = .ok (.sipush 128, 3) := by decide +kernel
theorem dX12_init_81 : decode cX12_init 81 = .ok (.newarray .int, 2) := by decide +kernel
theorem dX12_init_83 : decode cX12_init 83 = .ok (.putfield 37, 3) := by decide +kernel
theorem dX12_init_86 : decode cX12_init 86 = .ok (.aload_n 0, 1) := by decide +kernel
theorem dX12_init_87 : decode cX12_init 87 = .ok (.sipush 128, 3) := by decide +kernel
theorem dX12_init_90 : decode cX12_init 90 = .ok (.newarray .int, 2) := by decide +kernel
theorem dX12_init_92 : decode cX12_init 92 = .ok (.putfield 40, 3) := by decide +kernel
theorem dX12_init_95 : decode cX12_init 95 = .ok (.aload_n 0, 1) := by decide +kernel
theorem dX12_init_96 : decode cX12_init 96 = .ok (.sipush 128, 3) := by decide +kernel
theorem dX12_init_99 : decode cX12_init 99 = .ok (.newarray .int, 2) := by decide +kernel
theorem dX12_init_101 : decode cX12_init 101 = .ok (.putfield 43, 3) := by decide +kernel
theorem dX12_init_104 : decode cX12_init 104 = .ok (.aload_n 0, 1) := by decide +kernel
theorem dX12_init_105 : decode cX12_init 105 = .ok (.sipush 128, 3) := by decide +kernel
theorem dX12_init_108 : decode cX12_init 108 = .ok (.newarray .int, 2) := by decide +kernel
theorem dX12_init_110 : decode cX12_init 110 = .ok (.putfield 46, 3) := by decide +kernel
theorem dX12_init_113 : decode cX12_init 113 = .ok (.aload_n 0, 1) := by decide +kernel
theorem dX12_init_114 : decode cX12_init 114 = .ok (.sipush 128, 3) := by decide +kernel
theorem dX12_init_117 : decode cX12_init 117 = .ok (.newarray .boolean, 2) := by decide +kernel
theorem dX12_init_119 : decode cX12_init 119 = .ok (.putfield 49, 3) := by decide +kernel
theorem dX12_init_122 : decode cX12_init 122 = .ok (.aload_n 0, 1) := by decide +kernel
theorem dX12_init_123 : decode cX12_init 123 = .ok (.sipush 128, 3) := by decide +kernel
theorem dX12_init_126 : decode cX12_init 126 = .ok (.newarray .int, 2) := by decide +kernel
theorem dX12_init_128 : decode cX12_init 128 = .ok (.putfield 53, 3) := by decide +kernel
theorem dX12_init_131 : decode cX12_init 131 = .ok (.aload_n 0, 1) := by decide +kernel
theorem dX12_init_132 : decode cX12_init 132 = .ok (.sipush 128, 3) := by decide +kernel
theorem dX12_init_135 : decode cX12_init 135 = .ok (.newarray .int, 2) := by decide +kernel
theorem dX12_init_137 : decode cX12_init 137 = .ok (.putfield 56, 3) := by decide +kernel
theorem dX12_init_140 : decode cX12_init 140 = .ok (.aload_n 0, 1) := by decide +kernel
theorem dX12_init_141 : decode cX12_init 141 = .ok (.invokevirtual 59, 3) := by decide +kernel
theorem dX12_init_144 : decode cX12_init 144 = .ok (.pop, 1) := by decide +kernel
theorem dX12_init_145 : decode cX12_init 145 = .ok (.aload_n 0, 1) := by decide +kernel
theorem dX12_init_146 : decode cX12_init 146 = .ok (.invokevirtual 63, 3) := by decide +kernel
theorem dX12_init_149 : decode cX12_init 149 = .ok (.return_, 1) := by decide +kernel
theorem dX12_in_0 : decode cX12_in 0 = .ok (.iload_n 0, 1) := by decide +kernel
theorem dX12_in_1 : decode cX12_in 1 = .ok (.iload_n 1, 1) := by decide +kernel
theorem dX12_in_2 : decode cX12_in 2 = .ok (.if_icmp .lt 12, 3) := by decide +kernel
theorem dX12_in_5 : decode cX12_in 5 = .ok (.iload_n 0, 1) := by decide +kernel
theorem dX12_in_6 : decode cX12_in 6 = .ok (.iload_n 2, 1) := by decide +kernel
theorem dX12_in_7 : decode cX12_in 7 = .ok (.if_icmp .gt 7, 3) := by decide +kernel
theorem dX12_in_10 : decode cX12_in 10 = .ok (.iconst 1, 1) := by decide +kernel
theorem dX12_in_11 : decode cX12_in 11 = .ok (.goto 4, 3) := by decide +kernel
theorem dX12_in_14 : decode cX12_in 14 = .ok (.iconst 0, 1) := by decide +kernel
theorem dX12_in_15 : decode cX12_in 15 = .ok (.ireturn, 1) := by decide +kernel
set_option maxRecDepth 20000 in
theorem ggX12_isPlace_X12_in : GoodIn wsX12_isPlace wsX12_in := goodIn_r _ [5] (by decide +kernel) (by decide +kernel)
set_option maxRecDepth 20000 in
theorem gX12_isPlace_X12_in : GoodIn wsX12_isPlace (va_wsS RX12 66 yX12_in wsX12_in) := goodIn_app (goodIn_of _ (by decide +kernel)) ggX12_isPlace_X12_in
theorem dX12_isPlace_0 : decode cX12_isPlace 0 = .ok (.iload_n 1, 1) := by decide +kernel
theorem dX12_isPlace_1 : decode cX12_isPlace 1 = .ok (.iconst 0, 1) := by decide +kernel
theorem dX12_isPlace_2 : decode cX12_isPlace 2 = .ok (.aload_n 0, 1) := by decide +kernel
theorem dX12_isPlace_3 : decode cX12_isPlace 3 = .ok (.getfield 13, 3) := by decide +kernel
theorem dX12_isPlace_6 : decode cX12_isPlace 6 = .ok (.iconst 0, 1) := by decide +kernel
theorem dX12_isPlace_7 : decode cX12_isPlace 7 = .ok (.iaload, 1) := by decide +kernel
theorem dX12_isPlace_8 : decode cX12_isPlace 8 = .ok (.iconst 1, 1) := by decide +kernel
theorem dX12_isPlace_9 : decode cX12_isPlace 9 = .ok (.isub, 1) := by decide +kernel
theorem dX12_isPlace_10 : decode cX12_isPlace 10 = .ok (.invokestatic 66, 3) := by decide +kernel
theorem dX12_isPlace_13 : decode cX12_isPlace 13 = .ok (.ireturn, 1) := by decide +kernel
set_option maxRecDepth 20000 in
theorem ggX12_isSort_X12_in : GoodIn wsX12_isSort wsX12_in := goodIn_r _ [5] (by decide +kernel) (by decide +kernel)
set_option maxRecDepth 20000 in
theorem gX12_isSort_X12_in : GoodIn wsX12_isSort (va_wsS RX12 66 yX12_in wsX12_in) := goodIn_app (goodIn_of _ (by decide +kernel)) ggX12_isSort_X12_in
theorem dX12_isSort_0 : decode cX12_isSort 0 = .ok (.iload_n 1, 1) := by decide +kernel
theorem dX12_isSort_1 : decode cX12_isSort 1 = .ok (.iconst 0, 1) := by decide +kernel
theorem dX12_isSort_2 : decode cX12_isSort 2 = .ok (.aload_n 0, 1) := by decide +kernel
theorem dX12_isSort_3 : decode cX12_isSort 3 = .ok (.getfield 13, 3) := by decide +kernel
theorem dX12_isSort_6 : decode cX12_isSort 6 = .ok (.iconst 3, 1) := by decide +kernel
theorem dX12_isSort_7 : decode cX12_isSort 7 = .ok (.iaload, 1) := by decide +kernel
theorem dX12_isSort_8 : decode cX12_isSort 8 = .ok (.iconst 1, 1) := by decide +kernel
theorem dX12_isSort_9 : decode cX12_isSort 9 = .ok (.isub, 1) := by decide +kernel
theorem dX12_isSort_10 : decode cX12_isSort 10 = .ok (.invokestatic 66, 3) := by decide +kernel
theorem dX12_isSort_13 : decode cX12_isSort 13 = .ok (.ireturn, 1) := by decide +kernel
set_option maxRecDepth 20000 in
theorem ggX12_isMinute_X12_in : GoodIn wsX12_isMinute wsX12_in := goodIn_r _ [4] (by decide +kernel) (by decide +kernel)
set_option maxRecDepth 20000 in
theorem gX12_isMinute_X12_in : GoodIn wsX12_isMinute (va_wsS RX12 66 yX12_in wsX12_in) := goodIn_app (goodIn_of _ (by decide +kernel)) ggX12_isMinute_X12_in
theorem dX12_isMinute_0 : decode cX12_isMinute 0 = .ok (.iload_n 0, 1) := by decide +kernel
theorem dX12_isMinute_1 : decode cX12_isMinute 1 = .ok (.iconst 0, 1) := by decide +kernel
theorem dX12_isMinute_2 : decode cX12_isMinute 2 = .ok (.sipush 9999, 3) := by decide +kernel
theorem dX12_isMinute_5 : decode cX12_isMinute 5 = .ok (.invokestatic 66, 3) := by decide +kernel
theorem dX12_isMinute_8 : decode cX12_isMinute 8 = .ok (.ireturn, 1) := by decide +kernel
set_option maxRecDepth 20000 in
theorem ggX12_write_X12_in : GoodIn wsX12_write wsX12_in := goodIn_r _ [7] (by decide +kernel) (by decide +kernel)
set_option maxRecDepth 20000 in
theorem gX12_write_X12_in : GoodIn wsX12_write (va_wsS RX12 66 yX12_in wsX12_in) := goodIn_app (goodIn_of _ (by decide +kernel)) ggX12_write_X12_in
theorem dX12_write_0 : decode cX12_write 0 = .ok (.iload_n 1, 1) := by decide +kernel
theorem dX12_write_1 : decode cX12_write 1 = .ok (.iconst 1, 1) := by decide +kernel
theorem dX12_write_2 : decode cX12_write 2 = .ok (.bipush 8, 2) := by decide +kernel
theorem dX12_write_4 : decode cX12_write 4 = .ok (.invokestatic 66, 3) := by decide +kernel
theorem dX12_write_7 : decode cX12_write 7 = .ok (.ifCond .ne 5, 3) := by decide +kernel
theorem dX12_write_10 : decode cX12_write 10 = .ok (.iconst (-1), 1) := by decide +kernel
theorem dX12_write_11 : decode cX12_write 11 = .ok (.ireturn, 1) := by decide +kernel
theorem dX12_write_12 : decode cX12_write 12 = .ok (.aload_n 0, 1) := by decide +kernel
theorem dX12_write_13 : decode cX12_write 13 = .ok (.getfield 70, 3) := by decide +kernel
theorem dX12_write_16 : decode cX12_write 16 = .ok (.iload_n 1, 1) := by decide +kernel
theorem dX12_write_17 : decode cX12_write 17 = .ok (.iadd, 1) := by decide +kernel
theorem dX12_write_18 : decode cX12_write 18 = .ok (.sipush 300, 3) := by decide +kernel
theorem dX12_write_21 : decode cX12_write 21 = .ok (.if_icmp .le 6, 3) := by decide +kernel
theorem dX12_write_24 : decode cX12_write 24 = .ok (.bipush (-3), 2) := by decide +kernel
theorem dX12_write_26 : decode cX12_write 26 = .ok (.ireturn, 1) := by decide +kernel
theorem dX12_write_27 : decode cX12_write 27 = .ok (.iload_n 1, 1) := by decide +kernel
theorem dX12_write_28 : decode cX12_write 28 = .ok (.iconst 1, 1) := by decide +kernel
theorem dX12_write_29 : decode cX12_write 29 = .ok (.isub, 1) := by decide +kernel
theorem dX12_write_30 : decode cX12_write 30 = .ok (.istore 4, 2) := by decide +kernel
theorem dX12_write_32 : decode cX12_write 32 = .ok (.iload 4, 2) := by decide +kernel
theorem dX12_write_34 : decode cX12_write 34 = .ok (.ifCond .lt 40, 3) := by decide +kernel
theorem dX12_write_37 : decode cX12_write 37 = .ok (.aload_n 0, 1) := by decide +kernel
theorem dX12_write_38 : decode cX12_write 38 = .ok (.getfield 7, 3) := by decide +kernel
theorem dX12_write_41 : decode cX12_write 41 = .ok (.aload_n 0, 1) := by decide +kernel
theorem dX12_write_42 : decode cX12_write 42 = .ok (.getfield 70, 3) := by decide +kernel
theorem dX12_write_45 : decode cX12_write 45 = .ok (.lload_n 2, 1) := by decide +kernel
theorem dX12_write_46 : decode cX12_write 46 = .ok (.bipush 8, 2) := by decide +kernel
theorem dX12_write_48 : decode cX12_write 48 = .ok (.iload 4, 2) := by decide +kernel
theorem dX12_write_50 : decode cX12_write 50 = .ok (.imul, 1) := by decide +kernel
theorem dX12_write_51 : decode cX12_write 51 = .ok (.lshr, 1) := by decide +kernel
theorem dX12_write_52 : decode cX12_write 52 = .ok (.ldc2_w 74, 3) := by decide +kernel
theorem dX12_write_55 : decode cX12_write 55 = .ok (.land, 1) := by decide +kernel
theorem dX12_write_56 : decode cX12_write 56 = .ok (.l2i, 1) := by decide +kernel
theorem dX12_write_57 : decode cX12_write 57 = .ok (.iastore, 1) := by decide +kernel
theorem dX12_write_58 : decode cX12_write 58 = .ok (.aload_n 0, 1) := by decide +kernel
theorem dX12_write_59 : decode cX12_write 59 = .ok (.dup, 1) := by decide +kernel
theorem dX12_write_60 : decode cX12_write 60 = .ok (.getfield 70, 3) := by decide +kernel
theorem dX12_write_63 : decode cX12_write 63 = .ok (.iconst 1, 1) := by decide +kernel
theorem dX12_write_64 : decode cX12_write 64 = .ok (.iadd, 1) := by decide +kernel
theorem dX12_write_65 : decode cX12_write 65 = .ok (.putfield 70, 3) := by decide +kernel
theorem dX12_write_68 : decode cX12_write 68 = .ok (.iinc 4 (-1), 3) := by decide +kernel
theorem dX12_write_71 : decode cX12_write 71 = .ok (.goto (-39), 3) := by decide +kernel
theorem dX12_write_74 : decode cX12_write 74 = .ok (.aload_n 0, 1) := by decide +kernel
theorem dX12_write_75 : decode cX12_write 75 = .ok (.getfield 70, 3) := by decide +kernel
theorem dX12_write_78 : decode cX12_write 78 = .ok (.ireturn, 1) := by decide +kernel
theorem dX12_wipe_0 : decode cX12_wipe 0 = .ok (.aload_n 0, 1) := by decide +kernel
theorem dX12_wipe_1 : decode cX12_wipe 1 = .ok (.getfield 70, 3) := by decide +kernel
theorem dX12_wipe_4 : decode cX12_wipe 4 = .ok (.istore_n 1, 1) := by decide +kernel
theorem dX12_wipe_5 : decode cX12_wipe 5 = .ok (.aload_n 0, 1) := by decide +kernel
theorem dX12_wipe_6 : decode cX12_wipe 6 = .ok (.iconst 0, 1) := by decide +kernel
theorem dX12_wipe_7 : decode cX12_wipe 7 = .ok (.putfield 70, 3) := by decide +kernel
theorem dX12_wipe_10 : decode cX12_wipe 10 = .ok (.iload_n 1, 1) := by decide +kernel
theorem dX12_wipe_11 : decode cX12_wipe 11 = .ok (.ireturn, 1) := by decide +kernel
theorem dX12_byteAt_0 : decode cX12_byteAt 0 = .ok (.iload_n 1, 1) := by decide +kernel
theorem dX12_byteAt_1 : decode cX12_byteAt 1 = .ok (.aload_n 0, 1) := by decide +kernel
theorem dX12_byteAt_2 : decode cX12_byteAt 2 = .ok (.getfield 70, 3) := by decide +kernel
theorem dX12_byteAt_5 : decode cX12_byteAt 5 = .ok (.if_icmp .ge 12, 3) := by decide +kernel
theorem dX12_byteAt_8 : decode cX12_byteAt 8 = .ok (.aload_n 0, 1) := by decide +kernel
theorem dX12_byteAt_9 : decode cX12_byteAt 9 = .ok (.getfield 7, 3) := by decide +kernel
theorem dX12_byteAt_12 : decode cX12_byteAt 12 = .ok (.iload_n 1, 1) := by decide +kernel
theorem dX12_byteAt_13 : decode cX12_byteAt 13 = .ok (.iaload, 1) := by decide +kernel
theorem dX12_byteAt_14 : decode cX12_byteAt 14 = .ok (.goto 4, 3) := by decide +kernel
theorem dX12_byteAt_17 : decode cX12_byteAt 17 = .ok (.iconst (-1), 1) := by decide +kernel
theorem dX12_byteAt_18 : decode cX12_byteAt 18 = .ok (.ireturn, 1) := by decide +kernel
set_option maxRecDepth 20000 in
theorem ggX12_isFigure_X12_byteAt : GoodIn wsX12_isFigure wsX12_byteAt := goodIn_r _ [6, 7, 8, 12, 13, 14, 15, 16, 17, 18, 19, 20, 21, 22, 23, 24, 25, 26, 27, 28, 29, 30, 31, 32, 33, 34, 35] (by decide +kernel) (by decide +kernel)
set_option maxRecDepth 20000 in
theorem gX12_isFigure_X12_byteAt : GoodIn wsX12_isFigure (wsV RX12 79 RX12 yX12_byteAt wsX12_byteAt) := goodIn_app (goodIn_of _ (by decide +kernel)) ggX12_isFigure_X12_byteAt
set_option maxRecDepth 20000 in
theorem ggX12_isFigure_X12_in : GoodIn wsX12_isFigure wsX12_in := goodIn_r _ [11] (by decide +kernel) (by decide +kernel)
set_option maxRecDepth 20000 in
theorem gX12_isFigure_X12_in : GoodIn wsX12_isFigure (va_wsS RX12 66 yX12_in wsX12_in) := goodIn_app (goodIn_of _ (by decide +kernel)) ggX12_isFigure_X12_in
theorem dX12_isFigure_0 : decode cX12_isFigure 0 = .ok (.aload_n 0, 1) := by decide +kernel
theorem dX12_isFigure_1 : decode cX12_isFigure 1 = .ok (.aload_n 0, 1) := by decide +kernel
theorem dX12_isFigure_2 : decode cX12_isFigure 2 = .ok (.getfield 76, 3) := by decide +kernel
theorem dX12_isFigure_5 : decode cX12_isFigure 5 = .ok (.invokevirtual 79, 3) := by decide +kernel
theorem dX12_isFigure_8 : decode cX12_isFigure 8 = .ok (.bipush 48, 2) := by decide +kernel
theorem dX12_isFigure_10 : decode cX12_isFigure 10 = .ok (.bipush 48, 2) := by decide +kernel
theorem dX12_isFigure_12 : decode cX12_isFigure 12 = .ok (.iload_n 1, 1) := by decide +kernel
theorem dX12_isFigure_13 : decode cX12_isFigure 13 = .ok (.iadd, 1) := by decide +kernel
theorem dX12_isFigure_14 : decode cX12_isFigure 14 = .ok (.invokestatic 66, 3) := by decide +kernel
theorem dX12_isFigure_17 : decode cX12_isFigure 17 = .ok (.ireturn, 1) := by decide +kernel
set_option maxRecDepth 20000 in
theorem ggX12_numbers_X12_isFigure : GoodIn wsX12_numbers wsX12_isFigure := goodIn_r _ [7, 1, 8, 9, 10, 6, 11, 12, 13, 14, 15, 16, 17, 18, 19, 20, 21, 22, 23, 24, 25, 26, 27, 28, 29, 30, 31, 32, 33, 34, 35, 36, 37, 38, 39, 40] (by decide +kernel) (by decide +kernel)
set_option maxRecDepth 20000 in
theorem gX12_numbers_X12_isFigure : GoodIn wsX12_numbers (wsV RX12 83 RX12 yX12_isFigure wsX12_isFigure) := goodIn_app (goodIn_of _ (by decide +kernel)) ggX12_numbers_X12_isFigure
set_option maxRecDepth 20000 in
theorem ggX12_numbers_X12_byteAt : GoodIn wsX12_numbers wsX12_byteAt := goodIn_r _ [11, 12, 13, 17, 18, 19, 20, 21, 22, 23, 24, 25, 26, 27, 28, 29, 30, 31, 32, 33, 34, 35, 36, 37, 38, 39, 40] (by decide +kernel) (by decide +kernel)
set_option maxRecDepth 20000 in
theorem gX12_numbers_X12_byteAt : GoodIn wsX12_numbers (wsV RX12 79 RX12 yX12_byteAt wsX12_byteAt) := goodIn_app (goodIn_of _ (by decide +kernel)) ggX12_numbers_X12_byteAt
theorem dX12_numbers_0 : decode cX12_numbers 0 = .ok (.iconst 0, 1) := by decide +kernel
theorem dX12_numbers_1 : decode cX12_numbers 1 = .ok (.istore_n 2, 1) := by decide +kernel
theorem dX12_numbers_2 : decode cX12_numbers 2 = .ok (.iload_n 2, 1) := by decide +kernel
theorem dX12_numbers_3 : decode cX12_numbers 3 = .ok (.iload_n 1, 1) := by decide +kernel
theorem dX12_numbers_4 : decode cX12_numbers 4 = .ok (.if_icmp .ge 121, 3) := by decide +kernel
theorem dX12_numbers_7 : decode cX12_numbers 7 = .ok (.aload_n 0, 1) := by decide +kernel
theorem dX12_numbers_8 : decode cX12_numbers 8 = .ok (.getfield 76, 3) := by decide +kernel
theorem dX12_numbers_11 : decode cX12_numbers 11 = .ok (.istore_n 3, 1) := by decide +kernel
theorem dX12_numbers_12 : decode cX12_numbers 12 = .ok (.iconst 0, 1) := by decide +kernel
theorem dX12_numbers_13 : decode cX12_numbers 13 = .ok (.istore 4, 2) := by decide +kernel
theorem dX12_numbers_15 : decode cX12_numbers 15 = .ok (.aload_n 0, 1) := by decide +kernel
theorem dX12_numbers_16 : decode cX12_numbers 16 = .ok (.getfield 76, 3) := by decide +kernel
theorem dX12_numbers_19 : decode cX12_numbers 19 = .ok (.iload_n 3, 1) := by decide +kernel
theorem dX12_numbers_20 : decode cX12_numbers 20 = .ok (.iconst 2, 1) := by decide +kernel
theorem dX12_numbers_21 : decode cX12_numbers 21 = .ok (.iadd, 1) := by decide +kernel
theorem dX12_numbers_22 : decode cX12_numbers 22 = .ok (.if_icmp .ge 44, 3) := by decide +kernel
theorem dX12_numbers_25 : decode cX12_numbers 25 = .ok (.aload_n 0, 1) := by decide +kernel
theorem dX12_numbers_26 : decode cX12_numbers 26 = .ok (.bipush 9, 2) := by decide +kernel
