theorem dX0_init_0 : decode cX0_init 0 = .ok (.aload_n 0, 1) := by decide +kernel
theorem dX0_init_1 : decode cX0_init 1 = .ok (.invokespecial 3, 3) := by decide +kernel
theorem dX0_init_4 : decode cX0_init 4 = .ok (.aload_n 0, 1) := by decide +kernel
theorem dX0_init_5 : decode cX0_init 5 = .ok (.bipush 24, 2) := by decide +kernel
theorem dX0_init_7 : decode cX0_init 7 = .ok (.newarray .int, 2) := by decide +kernel
theorem dX0_init_9 : decode cX0_init 9 = .ok (.putfield 9, 3) := by decide +kernel
theorem dX0_init_12 : decode cX0_init 12 = .ok (.aload_n 0, 1) := by decide +kernel
theorem dX0_init_13 : decode cX0_init 13 = .ok (.bipush 24, 2) := by decide +kernel
theorem dX0_init_15 : decode cX0_init 15 = .ok (.newarray .int, 2) := by decide +kernel
theorem dX0_init_17 : decode cX0_init 17 = .ok (.putfield 15, 3) := by decide +kernel
theorem dX0_init_20 : decode cX0_init 20 = .ok (.aload_n 0, 1) := by decide +kernel
theorem dX0_init_21 : decode cX0_init 21 = .ok (.bipush 24, 2) := by decide +kernel
theorem dX0_init_23 : decode cX0_init 23 = .ok (.newarray .int, 2) := by decide +kernel
theorem dX0_init_25 : decode cX0_init 25 = .ok (.putfield 18, 3) := by decide +kernel
theorem dX0_init_28 : decode cX0_init 28 = .ok (.return_, 1) := by decide +kernel
theorem dX0_isBeat_0 : decode cX0_isBeat 0 = .ok (.iload_n 1, 1) := by decide +kernel
theorem dX0_isBeat_1 : decode cX0_isBeat 1 = .ok (.ifCond .lt 15, 3) := by decide +kernel
theorem dX0_isBeat_4 : decode cX0_isBeat 4 = .ok (.iload_n 1, 1) := by decide +kernel
theorem dX0_isBeat_5 : decode cX0_isBeat 5 = .ok (.aload_n 0, 1) := by decide +kernel
theorem dX0_isBeat_6 : decode cX0_isBeat 6 = .ok (.getfield 21, 3) := by decide +kernel
theorem dX0_isBeat_9 : decode cX0_isBeat 9 = .ok (.if_icmp .ge 7, 3) := by decide +kernel
theorem dX0_isBeat_12 : decode cX0_isBeat 12 = .ok (.iconst 1, 1) := by decide +kernel
theorem dX0_isBeat_13 : decode cX0_isBeat 13 = .ok (.goto 4, 3) := by decide +kernel
theorem dX0_isBeat_16 : decode cX0_isBeat 16 = .ok (.iconst 0, 1) := by decide +kernel
theorem dX0_isBeat_17 : decode cX0_isBeat 17 = .ok (.ireturn, 1) := by decide +kernel
theorem dX0_append_0 : decode cX0_append 0 = .ok (.aload_n 0, 1) := by decide +kernel
theorem dX0_append_1 : decode cX0_append 1 = .ok (.getfield 21, 3) := by decide +kernel
theorem dX0_append_4 : decode cX0_append 4 = .ok (.bipush 24, 2) := by decide +kernel
theorem dX0_append_6 : decode cX0_append 6 = .ok (.if_icmp .lt 5, 3) := by decide +kernel
theorem dX0_append_9 : decode cX0_append 9 = .ok (.iconst 0, 1) := by decide +kernel
theorem dX0_append_10 : decode cX0_append 10 = .ok (.ireturn, 1) := by decide +kernel
theorem dX0_append_11 : decode cX0_append 11 = .ok (.aload_n 0, 1) := by decide +kernel
theorem dX0_append_12 : decode cX0_append 12 = .ok (.getfield 9, 3) := by decide +kernel
theorem dX0_append_15 : decode cX0_append 15 = .ok (.aload_n 0, 1) := by decide +kernel
theorem dX0_append_16 : decode cX0_append 16 = .ok (.getfield 21, 3) := by decide +kernel
theorem dX0_append_19 : decode cX0_append 19 = .ok (.iload_n 1, 1) := by decide +kernel
theorem dX0_append_20 : decode cX0_append 20 = .ok (.iastore, 1) := by decide +kernel
theorem dX0_append_21 : decode cX0_append 21 = .ok (.aload_n 0, 1) := by decide +kernel
theorem dX0_append_22 : decode cX0_append 22 = .ok (.getfield 15, 3) := by decide +kernel
theorem dX0_append_25 : decode cX0_append 25 = .ok (.aload_n 0, 1) := by decide +kernel
theorem dX0_append_26 : decode cX0_append 26 = .ok (.getfield 21, 3) := by decide +kernel
theorem dX0_append_29 : decode cX0_append 29 = .ok (.iload_n 2, 1) := by decide +kernel
theorem dX0_append_30 : decode cX0_append 30 = .ok (.iastore, 1) := by decide +kernel
theorem dX0_append_31 : decode cX0_append 31 = .ok (.aload_n 0, 1) := by decide +kernel
theorem dX0_append_32 : decode cX0_append 32 = .ok (.getfield 18, 3) := by decide +kernel
theorem dX0_append_35 : decode cX0_append 35 = .ok (.aload_n 0, 1) := by decide +kernel
theorem dX0_append_36 : decode cX0_append 36 = .ok (.getfield 21, 3) := by decide +kernel
theorem dX0_append_39 : decode cX0_append 39 = .ok (.aload_n 0, 1) := by decide +kernel
theorem dX0_append_40 : decode cX0_append 40 = .ok (.getfield 25, 3) := by decide +kernel
theorem dX0_append_43 : decode cX0_append 43 = .ok (.iastore, 1) := by decide +kernel
theorem dX0_append_44 : decode cX0_append 44 = .ok (.aload_n 0, 1) := by decide +kernel
theorem dX0_append_45 : decode cX0_append 45 = .ok (.dup, 1) := by decide +kernel
theorem dX0_append_46 : decode cX0_append 46 = .ok (.getfield 21, 3) := by decide +kernel
theorem dX0_append_49 : decode cX0_append 49 = .ok (.iconst 1, 1) := by decide +kernel
theorem dX0_append_50 : decode cX0_append 50 = .ok (.iadd, 1) := by decide +kernel
theorem dX0_append_51 : decode cX0_append 51 = .ok (.putfield 21, 3) := by decide +kernel
theorem dX0_append_54 : decode cX0_append 54 = .ok (.iconst 1, 1) := by decide +kernel
theorem dX0_append_55 : decode cX0_append 55 = .ok (.ireturn, 1) := by decide +kernel
theorem dX0_dropLatest_0 : decode cX0_dropLatest 0 = .ok (.aload_n 0, 1) := by decide +kernel
theorem dX0_dropLatest_1 : decode cX0_dropLatest 1 = .ok (.getfield 21, 3) := by decide +kernel
theorem dX0_dropLatest_4 : decode cX0_dropLatest 4 = .ok (.ifCond .le 13, 3) := by decide +kernel
theorem dX0_dropLatest_7 : decode cX0_dropLatest 7 = .ok (.aload_n 0, 1) := by decide +kernel
theorem dX0_dropLatest_8 : decode cX0_dropLatest 8 = .ok (.dup, 1) := by decide +kernel
theorem dX0_dropLatest_9 : decode cX0_dropLatest 9 = .ok (.getfield 21, 3) := by decide +kernel
theorem dX0_dropLatest_12 : decode cX0_dropLatest 12 = .ok (.iconst 1, 1) := by decide +kernel
theorem dX0_dropLatest_13 : decode cX0_dropLatest 13 = .ok (.isub, 1) := by decide +kernel
theorem dX0_dropLatest_14 : decode cX0_dropLatest 14 = .ok (.putfield 21, 3) := by decide +kernel
theorem dX0_dropLatest_17 : decode cX0_dropLatest 17 = .ok (.return_, 1) := by decide +kernel
theorem dX0_copyFrom_0 : decode cX0_copyFrom 0 = .ok (.aload_n 0, 1) := by decide +kernel
theorem dX0_copyFrom_1 : decode cX0_copyFrom 1 = .ok (.aload_n 1, 1) := by decide +kernel
theorem dX0_copyFrom_2 : decode cX0_copyFrom 2 = .ok (.getfield 21, 3) := by decide +kernel
theorem dX0_copyFrom_5 : decode cX0_copyFrom 5 = .ok (.putfield 21, 3) := by decide +kernel
theorem dX0_copyFrom_8 : decode cX0_copyFrom 8 = .ok (.aload_n 0, 1) := by decide +kernel
theorem dX0_copyFrom_9 : decode cX0_copyFrom 9 = .ok (.aload_n 1, 1) := by decide +kernel
theorem dX0_copyFrom_10 : decode cX0_copyFrom 10 = .ok (.getfield 25, 3) := by decide +kernel
theorem dX0_copyFrom_13 : decode cX0_copyFrom 13 = .ok (.putfield 25, 3) := by decide +kernel
theorem dX0_copyFrom_16 : decode cX0_copyFrom 16 = .ok (.iconst 0, 1) := by decide +kernel
theorem dX0_copyFrom_17 : decode cX0_copyFrom 17 = .ok (.istore_n 2, 1) := by decide +kernel
theorem dX0_copyFrom_18 : decode cX0_copyFrom 18 = .ok (.iload_n 2, 1) := by decide +kernel
theorem dX0_copyFrom_19 : decode cX0_copyFrom 19 = .ok (.aload_n 0, 1) := by decide +kernel
theorem dX0_copyFrom_20 : decode cX0_copyFrom 20 = .ok (.getfield 21, 3) := by decide +kernel
theorem dX0_copyFrom_23 : decode cX0_copyFrom 23 = .ok (.if_icmp .ge 45, 3) := by decide +kernel
theorem dX0_copyFrom_26 : decode cX0_copyFrom 26 = .ok (.aload_n 0, 1) := by decide +kernel
theorem dX0_copyFrom_27 : decode cX0_copyFrom 27 = .ok (.getfield 9, 3) := by decide +kernel
theorem dX0_copyFrom_30 : decode cX0_copyFrom 30 = .ok (.iload_n 2, 1) := by decide +kernel
theorem dX0_copyFrom_31 : decode cX0_copyFrom 31 = .ok (.aload_n 1, 1) := by decide +kernel
theorem dX0_copyFrom_32 : decode cX0_copyFrom 32 = .ok (.getfield 9, 3) := by decide +kernel
theorem dX0_copyFrom_35 : decode cX0_copyFrom 35 = .ok (.iload_n 2, 1) := by decide +kernel
theorem dX0_copyFrom_36 : decode cX0_copyFrom 36 = .ok (.iaload, 1) := by decide +kernel
theorem dX0_copyFrom_37 : decode cX0_copyFrom 37 = .ok (.iastore, 1) := by decide +kernel
theorem dX0_copyFrom_38 : decode cX0_copyFrom 38 = .ok (.aload_n 0, 1) := by decide +kernel
theorem dX0_copyFrom_39 : decode cX0_copyFrom 39 = .ok (.getfield 15, 3) := by decide +kernel
theorem dX0_copyFrom_42 : decode cX0_copyFrom 42 = .ok (.iload_n 2, 1) := by decide +kernel
theorem dX0_copyFrom_43 : decode cX0_copyFrom 43 = .ok (.aload_n 1, 1) := by decide +kernel
theorem dX0_copyFrom_44 : decode cX0_copyFrom 44 = .ok (.getfield 15, 3) := by decide +kernel
theorem dX0_copyFrom_47 : decode cX0_copyFrom 47 = .ok (.iload_n 2, 1) := by decide +kernel
theorem dX0_copyFrom_48 : decode cX0_copyFrom 48 = .ok (.iaload, 1) := by decide +kernel
theorem dX0_copyFrom_49 : decode cX0_copyFrom 49 = .ok (.iastore, 1) := by decide +kernel
theorem dX0_copyFrom_50 : decode cX0_copyFrom 50 = .ok (.aload_n 0, 1) := by decide +kernel
theorem dX0_copyFrom_51 : decode cX0_copyFrom 51 = .ok (.getfield 18, 3) := by decide +kernel
theorem dX0_copyFrom_54 : decode cX0_copyFrom 54 = .ok (.iload_n 2, 1) := by decide +kernel
theorem dX0_copyFrom_55 : decode cX0_copyFrom 55 = .ok (.aload_n 1, 1) := by decide +kernel
theorem dX0_copyFrom_56 : decode cX0_copyFrom 56 = .ok (.getfield 18, 3) := by decide +kernel
theorem dX0_copyFrom_59 : decode cX0_copyFrom 59 = .ok (.iload_n 2, 1) := by decide +kernel
theorem dX0_copyFrom_60 : decode cX0_copyFrom 60 = .ok (.iaload, 1) := by decide +kernel
theorem dX0_copyFrom_61 : decode cX0_copyFrom 61 = .ok (.iastore, 1) := by decide +kernel
theorem dX0_copyFrom_62 : decode cX0_copyFrom 62 = .ok (.iinc 2 1, 3) := by decide +kernel
theorem dX0_copyFrom_65 : decode cX0_copyFrom 65 = .ok (.goto (-47), 3) := by decide +kernel
theorem dX0_copyFrom_68 : decode cX0_copyFrom 68 = .ok (.return_, 1) := by decide +kernel
set_option maxRecDepth 20000 in
theorem ggX1_init_X7_init : GoodIn wsX1_init wsX7_init := goodIn_r _ [10, 11, 2, 3, 12, 13, 16, 17] (by decide +kernel) (by decide +kernel)
set_option maxRecDepth 20000 in
theorem gX1_init_X7_init : GoodIn wsX1_init (wsX7_init) := ggX1_init_X7_init
theorem dX1_init_0 : decode cX1_init 0 = .ok (.aload_n 0, 1) := by decide +kernel
theorem dX1_init_1 : decode cX1_init 1 = .ok (.invokespecial 3, 3) := by decide +kernel
theorem dX1_init_4 : decode cX1_init 4 = .ok (.aload_n 0, 1) := by decide +kernel
theorem dX1_init_5 : decode cX1_init 5 = .ok (.bipush 8, 2) := by decide +kernel
theorem dX1_init_7 : decode cX1_init 7 = .ok (.anewarray 9, 3) := by decide +kernel
theorem dX1_init_10 : decode cX1_init 10 = .ok (.putfield 11, 3) := by decide +kernel
theorem dX1_init_13 : decode cX1_init 13 = .ok (.iconst 0, 1) := by decide +kernel
theorem dX1_init_14 : decode cX1_init 14 = .ok (.istore_n 1, 1) := by decide +kernel
theorem dX1_init_15 : decode cX1_init 15 = .ok (.iload_n 1, 1) := by decide +kernel
theorem dX1_init_16 : decode cX1_init 16 = .ok (.bipush 8, 2) := by decide +kernel
theorem dX1_init_18 : decode cX1_init 18 = .ok (.if_icmp .ge 23, 3) := by decide +kernel
theorem dX1_init_21 : decode cX1_init 21 = .ok (.aload_n 0, 1) := by decide +kernel
theorem dX1_init_22 : decode cX1_init 22 = .ok (.getfield 11, 3) := by decide +kernel
theorem dX1_init_25 : decode cX1_init 25 = .ok (.iload_n 1, 1) := by decide +kernel
theorem dX1_init_26 : decode cX1_init 26 = .ok (.new 9, 3) := by decide +kernel
theorem dX1_init_29 : decode cX1_init 29 = .ok (.dup, 1) := by decide +kernel
theorem dX1_init_30 : decode cX1_init 30 = .ok (.iconst 4, 1) := by decide +kernel
theorem dX1_init_31 : decode cX1_init 31 = .ok (.invokespecial 17, 3) := by decide +kernel
theorem dX1_init_34 : decode cX1_init 34 = .ok (.aastore, 1) := by decide +kernel
theorem dX1_init_35 : decode cX1_init 35 = .ok (.iinc 1 1, 3) := by decide +kernel
theorem dX1_init_38 : decode cX1_init 38 = .ok (.goto (-23), 3) := by decide +kernel
theorem dX1_init_41 : decode cX1_init 41 = .ok (.return_, 1) := by decide +kernel
theorem dX1_isWord_0 : decode cX1_isWord 0 = .ok (.iload_n 1, 1) := by decide +kernel
theorem dX1_isWord_1 : decode cX1_isWord 1 = .ok (.ifCond .lt 15, 3) := by decide +kernel
theorem dX1_isWord_4 : decode cX1_isWord 4 = .ok (.iload_n 1, 1) := by decide +kernel
theorem dX1_isWord_5 : decode cX1_isWord 5 = .ok (.aload_n 0, 1) := by decide +kernel
theorem dX1_isWord_6 : decode cX1_isWord 6 = .ok (.getfield 20, 3) := by decide +kernel
theorem dX1_isWord_9 : decode cX1_isWord 9 = .ok (.if_icmp .ge 7, 3) := by decide +kernel
theorem dX1_isWord_12 : decode cX1_isWord 12 = .ok (.iconst 1, 1) := by decide +kernel
theorem dX1_isWord_13 : decode cX1_isWord 13 = .ok (.goto 4, 3) := by decide +kernel
theorem dX1_isWord_16 : decode cX1_isWord 16 = .ok (.iconst 0, 1) := by decide +kernel
theorem dX1_isWord_17 : decode cX1_isWord 17 = .ok (.ireturn, 1) := by decide +kernel
set_option maxRecDepth 20000 in
theorem ggX1_copyFrom_X7_copyFrom : GoodIn wsX1_copyFrom wsX7_copyFrom := goodIn_r _ [7, 8, 9, 10, 11, 12, 13, 16, 17] (by decide +kernel) (by decide +kernel)
set_option maxRecDepth 20000 in
theorem gX1_copyFrom_X7_copyFrom : GoodIn wsX1_copyFrom (wsV RX1 24 RX7 yX7_copyFrom wsX7_copyFrom) := goodIn_app (goodIn_of _ (by decide +kernel)) ggX1_copyFrom_X7_copyFrom
theorem dX1_copyFrom_0 : decode cX1_copyFrom 0 = .ok (.aload_n 0, 1) := by decide +kernel
theorem dX1_copyFrom_1 : decode cX1_copyFrom 1 = .ok (.aload_n 1, 1) := by decide +kernel
theorem dX1_copyFrom_2 : decode cX1_copyFrom 2 = .ok (.getfield 20, 3) := by decide +kernel
theorem dX1_copyFrom_5 : decode cX1_copyFrom 5 = .ok (.putfield 20, 3) := by decide +kernel
theorem dX1_copyFrom_8 : decode cX1_copyFrom 8 = .ok (.iconst 0, 1) := by decide +kernel
theorem dX1_copyFrom_9 : decode cX1_copyFrom 9 = .ok (.istore_n 2, 1) := by decide +kernel
theorem dX1_copyFrom_10 : decode cX1_copyFrom 10 = .ok (.iload_n 2, 1) := by decide +kernel
theorem dX1_copyFrom_11 : decode cX1_copyFrom 11 = .ok (.aload_n 0, 1) := by decide +kernel
theorem dX1_copyFrom_12 : decode cX1_copyFrom 12 = .ok (.getfield 20, 3) := by decide +kernel
theorem dX1_copyFrom_15 : decode cX1_copyFrom 15 = .ok (.if_icmp .ge 24, 3) := by decide +kernel
theorem dX1_copyFrom_18 : decode cX1_copyFrom 18 = .ok (.aload_n 0, 1) := by decide +kernel
theorem dX1_copyFrom_19 : decode cX1_copyFrom 19 = .ok (.getfield 11, 3) := by decide +kernel
theorem dX1_copyFrom_22 : decode cX1_copyFrom 22 = .ok (.iload_n 2, 1) := by decide +kernel
theorem dX1_copyFrom_23 : decode cX1_copyFrom 23 = .ok (.aaload, 1) := by decide +kernel
theorem dX1_copyFrom_24 : decode cX1_copyFrom 24 = .ok (.aload_n 1, 1) := by decide +kernel
theorem dX1_copyFrom_25 : decode cX1_copyFrom 25 = .ok (.getfield 11, 3) := by decide +kernel
theorem dX1_copyFrom_28 : decode cX1_copyFrom 28 = .ok (.iload_n 2, 1) := by decide +kernel
theorem dX1_copyFrom_29 : decode cX1_copyFrom 29 = .ok (.aaload, 1) := by decide +kernel
theorem dX1_copyFrom_30 : decode cX1_copyFrom 30 = .ok (.invokevirtual 24, 3) := by decide +kernel
theorem dX1_copyFrom_33 : decode cX1_copyFrom 33 = .ok (.iinc 2 1, 3) := by decide +kernel
theorem dX1_copyFrom_36 : decode cX1_copyFrom 36 = .ok (.goto (-26), 3) := by decide +kernel
theorem dX1_copyFrom_39 : decode cX1_copyFrom 39 = .ok (.return_, 1) := by decide +kernel
set_option maxRecDepth 20000 in
theorem ggX1_append_X7_sameAs : GoodIn wsX1_append wsX7_sameAs := goodIn_r _ [7, 8, 9, 20, 21] (by decide +kernel) (by decide +kernel)
set_option maxRecDepth 20000 in
theorem gX1_append_X7_sameAs : GoodIn wsX1_append (wsV RX1 28 RX7 yX7_sameAs wsX7_sameAs) := goodIn_app (goodIn_of _ (by decide +kernel)) ggX1_append_X7_sameAs
set_option maxRecDepth 20000 in
theorem ggX1_append_X7_copyFrom : GoodIn wsX1_append wsX7_copyFrom := goodIn_r _ [13, 8, 9, 14, 15, 16, 17, 20, 21] (by decide +kernel) (by decide +kernel)
set_option maxRecDepth 20000 in
theorem gX1_append_X7_copyFrom : GoodIn wsX1_append (wsV RX1 24 RX7 yX7_copyFrom wsX7_copyFrom) := goodIn_app (goodIn_of _ (by decide +kernel)) ggX1_append_X7_copyFrom
theorem dX1_append_0 : decode cX1_append 0 = .ok (.aload_n 0, 1) := by decide +kernel
theorem dX1_append_1 : decode cX1_append 1 = .ok (.getfield 20, 3) := by decide +kernel
theorem dX1_append_4 : decode cX1_append 4 = .ok (.bipush 8, 2) := by decide +kernel
theorem dX1_append_6 : decode cX1_append 6 = .ok (.if_icmp .lt 5, 3) := by decide +kernel
theorem dX1_append_9 : decode cX1_append 9 = .ok (.iconst 0, 1) := by decide +kernel
theorem dX1_append_10 : decode cX1_append 10 = .ok (.ireturn, 1) := by decide +kernel
theorem dX1_append_11 : decode cX1_append 11 = .ok (.iconst 0, 1) := by decide +kernel
theorem dX1_append_12 : decode cX1_append 12 = .ok (.istore_n 2, 1) := by decide +kernel
theorem dX1_append_13 : decode cX1_append 13 = .ok (.iload_n 2, 1) := by decide +kernel
theorem dX1_append_14 : decode cX1_append 14 = .ok (.aload_n 0, 1) := by decide +kernel
theorem dX1_append_15 : decode cX1_append 15 = .ok (.getfield 20, 3) := by decide +kernel
theorem dX1_append_18 : decode cX1_append 18 = .ok (.if_icmp .ge 24, 3) := by decide +kernel
theorem dX1_append_21 : decode cX1_append 21 = .ok (.aload_n 0, 1) := by decide +kernel
theorem dX1_append_22 : decode cX1_append 22 = .ok (.getfield 11, 3) := by decide +kernel
theorem dX1_append_25 : decode cX1_append 25 = .ok (.iload_n 2, 1) := by decide +kernel
theorem dX1_append_26 : decode cX1_append 26 = .ok (.aaload, 1) := by decide +kernel
theorem dX1_append_27 : decode cX1_append 27 = .ok (.aload_n 1, 1) := by decide +kernel
theorem dX1_append_28 : decode cX1_append 28 = .ok (.invokevirtual 28, 3) := by decide +kernel
theorem dX1_append_31 : decode cX1_append 31 = .ok (.ifCond .eq 5, 3) := by decide +kernel
theorem dX1_append_34 : decode cX1_append 34 = .ok (.iconst 0, 1) := by decide +kernel
theorem dX1_append_35 : decode cX1_append 35 = .ok (.ireturn, 1) := by decide +kernel
theorem dX1_append_36 : decode cX1_append 36 = .ok (.iinc 2 1, 3) := by decide +kernel
theorem dX1_append_39 : decode cX1_append 39 = .ok (.goto (-26), 3) := by decide +kernel
theorem dX1_append_42 : decode cX1_append 42 = .ok (.aload_n 0, 1) := by decide +kernel
theorem dX1_append_43 : decode cX1_append 43 = .ok (.getfield 11, 3) := by decide +kernel
theorem dX1_append_46 : decode cX1_append 46 = .ok (.aload_n 0, 1) := by decide +kernel
theorem dX1_append_47 : decode cX1_append 47 = .ok (.getfield 20, 3) := by decide +kernel
theorem dX1_append_50 : decode cX1_append 50 = .ok (.aaload, 1) := by decide +kernel
theorem dX1_append_51 : decode cX1_append 51 = .ok (.aload_n 1, 1) := by decide +kernel
theorem dX1_append_52 : decode cX1_append 52 = .ok (.invokevirtual 24, 3) := by decide +kernel
theorem dX1_append_55 : decode cX1_append 55 = .ok (.aload_n 0, 1) := by decide +kernel
theorem dX1_append_56 : decode cX1_append 56 = .ok (.dup, 1) := by decide +kernel
theorem dX1_append_57 : decode cX1_append 57 = .ok (.getfield 20, 3) := by decide +kernel
theorem dX1_append_60 : decode cX1_append 60 = .ok (.iconst 1, 1) := by decide +kernel
theorem dX1_append_61 : decode cX1_append 61 = .ok (.iadd, 1) := by decide +kernel
theorem dX1_append_62 : decode cX1_append 62 = .ok (.putfield 20, 3) := by decide +kernel
theorem dX1_append_65 : decode cX1_append 65 = .ok (.iconst 1, 1) := by decide +kernel
theorem dX1_append_66 : decode cX1_append 66 = .ok (.ireturn, 1) := by decide +kernel
set_option maxRecDepth 20000 in
theorem ggX1_wordRead_X1_longestAt : GoodIn wsX1_wordRead wsX1_longestAt := goodIn_r _ [11, 12, 1, 2, 13, 14, 15, 16, 17, 18, 19, 20, 21, 22, 23, 24, 25, 26, 27, 28, 29, 30, 31] (by decide +kernel) (by decide +kernel)
set_option maxRecDepth 20000 in
theorem gX1_wordRead_X1_longestAt : GoodIn wsX1_wordRead (wsV RX1 32 RX1 yX1_longestAt wsX1_longestAt) := goodIn_app (goodIn_of _ (by decide +kernel)) ggX1_wordRead_X1_longestAt
theorem dX1_wordRead_0 : decode cX1_wordRead 0 = .ok (.iconst 0, 1) := by decide +kernel
theorem dX1_wordRead_1 : decode cX1_wordRead 1 = .ok (.istore 4, 2) := by decide +kernel
theorem dX1_wordRead_3 : decode cX1_wordRead 3 = .ok (.iconst 1, 1) := by decide +kernel
theorem dX1_wordRead_4 : decode cX1_wordRead 4 = .ok (.istore 5, 2) := by decide +kernel
theorem dX1_wordRead_6 : decode cX1_wordRead 6 = .ok (.iconst 0, 1) := by decide +kernel
theorem dX1_wordRead_7 : decode cX1_wordRead 7 = .ok (.istore 6, 2) := by decide +kernel
theorem dX1_wordRead_9 : decode cX1_wordRead 9 = .ok (.iload 6, 2) := by decide +kernel
theorem dX1_wordRead_11 : decode cX1_wordRead 11 = .ok (.iload_n 2, 1) := by decide +kernel
theorem dX1_wordRead_12 : decode cX1_wordRead 12 = .ok (.if_icmp .ge 59, 3) := by decide +kernel
theorem dX1_wordRead_15 : decode cX1_wordRead 15 = .ok (.aload_n 0, 1) := by decide +kernel
theorem dX1_wordRead_16 : decode cX1_wordRead 16 = .ok (.aload_n 1, 1) := by decide +kernel
theorem dX1_wordRead_17 : decode cX1_wordRead 17 = .ok (.iload 6, 2) := by decide +kernel
theorem dX1_wordRead_19 : decode cX1_wordRead 19 = .ok (.iload_n 2, 1) := by decide +kernel
theorem dX1_wordRead_20 : decode cX1_wordRead 20 = .ok (.invokevirtual 32, 3) := by decide +kernel
theorem dX1_wordRead_23 : decode cX1_wordRead 23 = .ok (.istore 7, 2) := by decide +kernel
theorem dX1_wordRead_25 : decode cX1_wordRead 25 = .ok (.iconst 1, 1) := by decide +kernel
theorem dX1_wordRead_26 : decode cX1_wordRead 26 = .ok (.istore 5, 2) := by decide +kernel
theorem dX1_wordRead_28 : decode cX1_wordRead 28 = .ok (.iload 7, 2) := by decide +kernel
theorem dX1_wordRead_30 : decode cX1_wordRead 30 = .ok (.ifCond .lt 31, 3) := by decide +kernel
theorem dX1_wordRead_33 : decode cX1_wordRead 33 = .ok (.iload 4, 2) := by decide +kernel
theorem dX1_wordRead_35 : decode cX1_wordRead 35 = .ok (.iload_n 3, 1) := by decide +kernel
theorem dX1_wordRead_36 : decode cX1_wordRead 36 = .ok (.if_icmp .ne 6, 3) := by decide +kernel
theorem dX1_wordRead_39 : decode cX1_wordRead 39 = .ok (.iload 7, 2) := by decide +kernel
theorem dX1_wordRead_41 : decode cX1_wordRead 41 = .ok (.ireturn, 1) := by decide +kernel
theorem dX1_wordRead_42 : decode cX1_wordRead 42 = .ok (.iinc 4 1, 3) := by decide +kernel
theorem dX1_wordRead_45 : decode cX1_wordRead 45 = .ok (.iconst 1, 1) := by decide +kernel
theorem dX1_wordRead_46 : decode cX1_wordRead 46 = .ok (.aload_n 0, 1) := by decide +kernel
theorem dX1_wordRead_47 : decode cX1_wordRead 47 = .ok (.getfield 11, 3) := by decide +kernel
theorem dX1_wordRead_50 : decode cX1_wordRead 50 = .ok (.iload 7, 2) := by decide +kernel
theorem dX1_wordRead_52 : decode cX1_wordRead 52 = .ok (.aaload, 1) := by decide +kernel
theorem dX1_wordRead_53 : decode cX1_wordRead 53 = .ok (.getfield 36, 3) := by decide +kernel
theorem dX1_wordRead_56 : decode cX1_wordRead 56 = .ok (.invokestatic 37, 3) := by decide +kernel
theorem dX1_wordRead_59 : decode cX1_wordRead 59 = .ok (.istore 5, 2) := by decide +kernel
theorem dX1_wordRead_61 : decode cX1_wordRead 61 = .ok (.iload 6, 2) := by decide +kernel
theorem dX1_wordRead_63 : decode cX1_wordRead 63 = .ok (.iload 5, 2) := by decide +kernel
theorem dX1_wordRead_65 : decode cX1_wordRead 65 = .ok (.iadd, 1) := by decide +kernel
theorem dX1_wordRead_66 : decode cX1_wordRead 66 = .ok (.istore 6, 2) := by decide +kernel
theorem dX1_wordRead_68 : decode cX1_wordRead 68 = .ok (.goto (-59), 3) := by decide +kernel
theorem dX1_wordRead_71 : decode cX1_wordRead 71 = .ok (.bipush (-4), 2) := by decide +kernel
theorem dX1_wordRead_73 : decode cX1_wordRead 73 = .ok (.ireturn, 1) := by decide +kernel
set_option maxRecDepth 20000 in
theorem ggX1_longestAt_X5_holdsAt : GoodIn wsX1_longestAt wsX5_holdsAt := goodIn_r _ [8, 9, 10, 11, 12, 17, 18, 19, 20, 21, 22, 15, 16] (by decide +kernel) (by decide +kernel)
set_option maxRecDepth 20000 in
theorem gX1_longestAt_X5_holdsAt : GoodIn wsX1_longestAt (wsV RX1 43 RX5 yX5_holdsAt wsX5_holdsAt) := goodIn_app (goodIn_of _ (by decide +kernel)) ggX1_longestAt_X5_holdsAt
theorem dX1_longestAt_0 : decode cX1_longestAt 0 = .ok (.iconst (-1), 1) := by decide +kernel
theorem dX1_longestAt_1 : decode cX1_longestAt 1 = .ok (.istore 4, 2) := by decide +kernel
theorem dX1_longestAt_3 : decode cX1_longestAt 3 = .ok (.iconst 0, 1) := by decide +kernel
theorem dX1_longestAt_4 : decode cX1_longestAt 4 = .ok (.istore 5, 2) := by decide +kernel
theorem dX1_longestAt_6 : decode cX1_longestAt 6 = .ok (.iconst 0, 1) := by decide +kernel
theorem dX1_longestAt_7 : decode cX1_longestAt 7 = .ok (.istore 6, 2) := by decide +kernel
theorem dX1_longestAt_9 : decode cX1_longestAt 9 = .ok (.iload 6, 2) := by decide +kernel
theorem dX1_longestAt_11 : decode cX1_longestAt 11 = .ok (.aload_n 0, 1) := by decide +kernel
theorem dX1_longestAt_12 : decode cX1_longestAt 12 = .ok (.getfield 20, 3) := by decide +kernel
theorem dX1_longestAt_15 : decode cX1_longestAt 15 = .ok (.if_icmp .ge 56, 3) := by decide +kernel
theorem dX1_longestAt_18 : decode cX1_longestAt 18 = .ok (.aload_n 0, 1) := by decide +kernel
theorem dX1_longestAt_19 : decode cX1_longestAt 19 = .ok (.getfield 11, 3) := by decide +kernel
theorem dX1_longestAt_22 : decode cX1_longestAt 22 = .ok (.iload 6, 2) := by decide +kernel
theorem dX1_longestAt_24 : decode cX1_longestAt 24 = .ok (.aaload, 1) := by decide +kernel
theorem dX1_longestAt_25 : decode cX1_longestAt 25 = .ok (.getfield 36, 3) := by decide +kernel
theorem dX1_longestAt_28 : decode cX1_longestAt 28 = .ok (.iload 5, 2) := by decide +kernel
theorem dX1_longestAt_30 : decode cX1_longestAt 30 = .ok (.if_icmp .le 35, 3) := by decide +kernel
theorem dX1_longestAt_33 : decode cX1_longestAt 33 = .ok (.aload_n 1, 1) := by decide +kernel
theorem dX1_longestAt_34 : decode cX1_longestAt 34 = .ok (.aload_n 0, 1) := by decide +kernel
theorem dX1_longestAt_35 : decode cX1_longestAt 35 = .ok (.getfield 11, 3) := by decide +kernel
theorem dX1_longestAt_38 : decode cX1_longestAt 38 = .ok (.iload 6, 2) := by decide +kernel
theorem dX1_longestAt_40 : decode cX1_longestAt 40 = .ok (.aaload, 1) := by decide +kernel
theorem dX1_longestAt_41 : decode cX1_longestAt 41 = .ok (.iload_n 2, 1) := by decide +kernel
theorem dX1_longestAt_42 : decode cX1_longestAt 42 = .ok (.iload_n 3, 1) := by decide +kernel
theorem dX1_longestAt_43 : decode cX1_longestAt 43 = .ok (.invokevirtual 43, 3) := by decide +kernel
theorem dX1_longestAt_46 : decode cX1_longestAt 46 = .ok (.ifCond .eq 19, 3) := by decide +kernel
theorem dX1_longestAt_49 : decode cX1_longestAt 49 = .ok (.iload 6, 2) := by decide +kernel
theorem dX1_longestAt_51 : decode cX1_longestAt 51 = .ok (.istore 4, 2) := by decide +kernel
theorem dX1_longestAt_53 : decode cX1_longestAt 53 = .ok (.aload_n 0, 1) := by decide +kernel
theorem dX1_longestAt_54 : decode cX1_longestAt 54 = .ok (.getfield 11, 3) := by decide +kernel
theorem dX1_longestAt_57 : decode cX1_longestAt 57 = .ok (.iload 6, 2) := by decide +kernel
theorem dX1_longestAt_59 : decode cX1_longestAt 59 = .ok (.aaload, 1) := by decide +kernel
theorem dX1_longestAt_60 : decode cX1_longestAt 60 = .ok (.getfield 36, 3) := by decide +kernel
theorem dX1_longestAt_63 : decode cX1_longestAt 63 = .ok (.istore 5, 2) := by decide +kernel
theorem dX1_longestAt_65 : decode cX1_longestAt 65 = .ok (.iinc 6 1, 3) := by decide +kernel
theorem dX1_longestAt_68 : decode cX1_longestAt 68 = .ok (.goto (-59), 3) := by decide +kernel
theorem dX1_longestAt_71 : decode cX1_longestAt 71 = .ok (.iload 4, 2) := by decide +kernel
theorem dX1_longestAt_73 : decode cX1_longestAt 73 = .ok (.ireturn, 1) := by decide +kernel
set_option maxRecDepth 20000 in
theorem ggX1_howManySpoiled_X1_areSpoiled : GoodIn wsX1_howManySpoiled wsX1_areSpoiled := goodIn_r _ [6, 7, 8, 9, 10, 11, 12, 13, 14, 15, 16, 17, 18] (by decide +kernel) (by decide +kernel)
set_option maxRecDepth 20000 in
theorem gX1_howManySpoiled_X1_areSpoiled : GoodIn wsX1_howManySpoiled (wsV RX1 49 RX1 yX1_areSpoiled wsX1_areSpoiled) := goodIn_app (goodIn_of _ (by decide +kernel)) ggX1_howManySpoiled_X1_areSpoiled
theorem dX1_howManySpoiled_0 : decode cX1_howManySpoiled 0 = .ok (.iconst 0, 1) := by decide +kernel
theorem dX1_howManySpoiled_1 : decode cX1_howManySpoiled 1 = .ok (.istore_n 1, 1) := by decide +kernel
theorem dX1_howManySpoiled_2 : decode cX1_howManySpoiled 2 = .ok (.iconst 0, 1) := by decide +kernel
theorem dX1_howManySpoiled_3 : decode cX1_howManySpoiled 3 = .ok (.istore_n 2, 1) := by decide +kernel
theorem dX1_howManySpoiled_4 : decode cX1_howManySpoiled 4 = .ok (.iload_n 2, 1) := by decide +kernel
theorem dX1_howManySpoiled_5 : decode cX1_howManySpoiled 5 = .ok (.aload_n 0, 1) := by decide +kernel
theorem dX1_howManySpoiled_6 : decode cX1_howManySpoiled 6 = .ok (.getfield 20, 3) := by decide +kernel
theorem dX1_howManySpoiled_9 : decode cX1_howManySpoiled 9 = .ok (.if_icmp .ge 39, 3) := by decide +kernel
theorem dX1_howManySpoiled_12 : decode cX1_howManySpoiled 12 = .ok (.iload_n 2, 1) := by decide +kernel
theorem dX1_howManySpoiled_13 : decode cX1_howManySpoiled 13 = .ok (.iconst 1, 1) := by decide +kernel
theorem dX1_howManySpoiled_14 : decode cX1_howManySpoiled 14 = .ok (.iadd, 1) := by decide +kernel
theorem dX1_howManySpoiled_15 : decode cX1_howManySpoiled 15 = .ok (.istore_n 3, 1) := by decide +kernel
theorem dX1_howManySpoiled_16 : decode cX1_howManySpoiled 16 = .ok (.iload_n 3, 1) := by decide +kernel
theorem dX1_howManySpoiled_17 : decode cX1_howManySpoiled 17 = .ok (.aload_n 0, 1) := by decide +kernel
theorem dX1_howManySpoiled_18 : decode cX1_howManySpoiled 18 = .ok (.getfield 20, 3) := by decide +kernel
theorem dX1_howManySpoiled_21 : decode cX1_howManySpoiled 21 = .ok (.if_icmp .ge 21, 3) := by decide +kernel
theorem dX1_howManySpoiled_24 : decode cX1_howManySpoiled 24 = .ok (.aload_n 0, 1) := by decide +kernel
theorem dX1_howManySpoiled_25 : decode cX1_howManySpoiled 25 = .ok (.iload_n 2, 1) := by decide +kernel
theorem dX1_howManySpoiled_26 : decode cX1_howManySpoiled 26 = .ok (.iload_n 3, 1) := by decide +kernel
theorem dX1_howManySpoiled_27 : decode cX1_howManySpoiled 27 = .ok (.invokevirtual 49, 3) := by decide +kernel
theorem dX1_howManySpoiled_30 : decode cX1_howManySpoiled 30 = .ok (.ifCond .eq 6, 3) := by decide +kernel
theorem dX1_howManySpoiled_33 : decode cX1_howManySpoiled 33 = .ok (.iinc 1 1, 3) := by decide +kernel
theorem dX1_howManySpoiled_36 : decode cX1_howManySpoiled 36 = .ok (.iinc 3 1, 3) := by decide +kernel
theorem dX1_howManySpoiled_39 : decode cX1_howManySpoiled 39 = .ok (.goto (-23), 3) := by decide +kernel
theorem dX1_howManySpoiled_42 : decode cX1_howManySpoiled 42 = .ok (.iinc 2 1, 3) := by decide +kernel
theorem dX1_howManySpoiled_45 : decode cX1_howManySpoiled 45 = .ok (.goto (-41), 3) := by decide +kernel
theorem dX1_howManySpoiled_48 : decode cX1_howManySpoiled 48 = .ok (.iload_n 1, 1) := by decide +kernel
theorem dX1_howManySpoiled_49 : decode cX1_howManySpoiled 49 = .ok (.ireturn, 1) := by decide +kernel
set_option maxRecDepth 20000 in
theorem ggX1_firstSpoiled_X1_areSpoiled : GoodIn wsX1_firstSpoiled wsX1_areSpoiled := goodIn_r _ [6, 7, 8, 9, 10, 11, 12, 13, 14, 15, 16, 17, 18] (by decide +kernel) (by decide +kernel)
set_option maxRecDepth 20000 in
theorem gX1_firstSpoiled_X1_areSpoiled : GoodIn wsX1_firstSpoiled (wsV RX1 49 RX1 yX1_areSpoiled wsX1_areSpoiled) := goodIn_app (goodIn_of _ (by decide +kernel)) ggX1_firstSpoiled_X1_areSpoiled
theorem dX1_firstSpoiled_0 : decode cX1_firstSpoiled 0 = .ok (.iconst 0, 1) := by decide +kernel
theorem dX1_firstSpoiled_1 : decode cX1_firstSpoiled 1 = .ok (.istore_n 1, 1) := by decide +kernel
theorem dX1_firstSpoiled_2 : decode cX1_firstSpoiled 2 = .ok (.iload_n 1, 1) := by decide +kernel
theorem dX1_firstSpoiled_3 : decode cX1_firstSpoiled 3 = .ok (.aload_n 0, 1) := by decide +kernel
theorem dX1_firstSpoiled_4 : decode cX1_firstSpoiled 4 = .ok (.getfield 20, 3) := by decide +kernel
theorem dX1_firstSpoiled_7 : decode cX1_firstSpoiled 7 = .ok (.if_icmp .ge 43, 3) := by decide +kernel
theorem dX1_firstSpoiled_10 : decode cX1_firstSpoiled 10 = .ok (.iload_n 1, 1) := by decide +kernel
theorem dX1_firstSpoiled_11 : decode cX1_firstSpoiled 11 = .ok (.iconst 1, 1) := by decide +kernel
theorem dX1_firstSpoiled_12 : decode cX1_firstSpoiled 12 = .ok (.iadd, 1) := by decide +kernel
theorem dX1_firstSpoiled_13 : decode cX1_firstSpoiled 13 = .ok (.istore_n 2, 1) := by decide +kernel
theorem dX1_firstSpoiled_14 : decode cX1_firstSpoiled 14 = .ok (.iload_n 2, 1) := by decide +kernel
theorem dX1_firstSpoiled_15 : decode cX1_firstSpoiled 15 = .ok (.aload_n 0, 1) := by decide +kernel
theorem dX1_firstSpoiled_16 : decode cX1_firstSpoiled 16 = .ok (.getfield 20, 3) := by decide +kernel
theorem dX1_firstSpoiled_19 : decode cX1_firstSpoiled 19 = .ok (.if_icmp .ge 25, 3) := by decide +kernel
theorem dX1_firstSpoiled_22 : decode cX1_firstSpoiled 22 = .ok (.aload_n 0, 1) := by decide +kernel
theorem dX1_firstSpoiled_23 : decode cX1_firstSpoiled 23 = .ok (.iload_n 1, 1) := by decide +kernel
theorem dX1_firstSpoiled_24 : decode cX1_firstSpoiled 24 = .ok (.iload_n 2, 1) := by decide +kernel
theorem dX1_firstSpoiled_25 : decode cX1_firstSpoiled 25 = .ok (.invokevirtual 49, 3) := by decide +kernel
theorem dX1_firstSpoiled_28 : decode cX1_firstSpoiled 28 = .ok (.ifCond .eq 10, 3) := by decide +kernel
theorem dX1_firstSpoiled_31 : decode cX1_firstSpoiled 31 = .ok (.bipush 10, 2) := by decide +kernel
theorem dX1_firstSpoiled_33 : decode cX1_firstSpoiled 33 = .ok (.iload_n 1, 1) := by decide +kernel
theorem dX1_firstSpoiled_34 : decode cX1_firstSpoiled 34 = .ok (.imul, 1) := by decide +kernel
theorem dX1_firstSpoiled_35 : decode cX1_firstSpoiled 35 = .ok (.iload_n 2, 1) := by decide +kernel
theorem dX1_firstSpoiled_36 : decode cX1_firstSpoiled 36 = .ok (.iadd, 1) := by decide +kernel
theorem dX1_firstSpoiled_37 : decode cX1_firstSpoiled 37 = .ok (.ireturn, 1) := by decide +kernel
theorem dX1_firstSpoiled_38 : decode cX1_firstSpoiled 38 = .ok (.iinc 2 1, 3) := by decide +kernel
theorem dX1_firstSpoiled_41 : decode cX1_firstSpoiled 41 = .ok (.goto (-27), 3) := by decide +kernel
theorem dX1_firstSpoiled_44 : decode cX1_firstSpoiled 44 = .ok (.iinc 1 1, 3) := by decide +kernel
theorem dX1_firstSpoiled_47 : decode cX1_firstSpoiled 47 = .ok (.goto (-45), 3) := by decide +kernel
theorem dX1_firstSpoiled_50 : decode cX1_firstSpoiled 50 = .ok (.bipush (-4), 2) := by decide +kernel
theorem dX1_firstSpoiled_52 : decode cX1_firstSpoiled 52 = .ok (.ireturn, 1) := by decide +kernel
set_option maxRecDepth 20000 in
theorem ggX1_areSpoiled_X7_isLessOne : GoodIn wsX1_areSpoiled wsX7_isLessOne := goodIn_r _ [6, 7, 8, 11, 12] (by decide +kernel) (by decide +kernel)
set_option maxRecDepth 20000 in
theorem gX1_areSpoiled_X7_isLessOne : GoodIn wsX1_areSpoiled (wsV RX1 53 RX7 yX7_isLessOne wsX7_isLessOne) := goodIn_app (goodIn_of _ (by decide +kernel)) ggX1_areSpoiled_X7_isLessOne
theorem dX1_areSpoiled_0 : decode cX1_areSpoiled 0 = .ok (.aload_n 0, 1) := by decide +kernel
theorem dX1_areSpoiled_1 : decode cX1_areSpoiled 1 = .ok (.getfield 11, 3) := by decide +kernel
theorem dX1_areSpoiled_4 : decode cX1_areSpoiled 4 = .ok (.iload_n 1, 1) := by decide +kernel
theorem dX1_areSpoiled_5 : decode cX1_areSpoiled 5 = .ok (.aaload, 1) := by decide +kernel
theorem dX1_areSpoiled_6 : decode cX1_areSpoiled 6 = .ok (.aload_n 0, 1) := by decide +kernel
theorem dX1_areSpoiled_7 : decode cX1_areSpoiled 7 = .ok (.getfield 11, 3) := by decide +kernel
theorem dX1_areSpoiled_10 : decode cX1_areSpoiled 10 = .ok (.iload_n 2, 1) := by decide +kernel
theorem dX1_areSpoiled_11 : decode cX1_areSpoiled 11 = .ok (.aaload, 1) := by decide +kernel
theorem dX1_areSpoiled_12 : decode cX1_areSpoiled 12 = .ok (.invokevirtual 53, 3) := by decide +kernel
theorem dX1_areSpoiled_15 : decode cX1_areSpoiled 15 = .ok (.ifCond .ne 21, 3) := by decide +kernel
theorem dX1_areSpoiled_18 : decode cX1_areSpoiled 18 = .ok (.aload_n 0, 1) := by decide +kernel
theorem dX1_areSpoiled_19 : decode cX1_areSpoiled 19 = .ok (.getfield 11, 3) := by decide +kernel
theorem dX1_areSpoiled_22 : decode cX1_areSpoiled 22 = .ok (.iload_n 2, 1) := by decide +kernel
theorem dX1_areSpoiled_23 : decode cX1_areSpoiled 23 = .ok (.aaload, 1) := by decide +kernel
theorem dX1_areSpoiled_24 : decode cX1_areSpoiled 24 = .ok (.aload_n 0, 1) := by decide +kernel
theorem dX1_areSpoiled_25 : decode cX1_areSpoiled 25 = .ok (.getfield 11, 3) := by decide +kernel
theorem dX1_areSpoiled_28 : decode cX1_areSpoiled 28 = .ok (.iload_n 1, 1) := by decide +kernel
theorem dX1_areSpoiled_29 : decode cX1_areSpoiled 29 = .ok (.aaload, 1) := by decide +kernel
theorem dX1_areSpoiled_30 : decode cX1_areSpoiled 30 = .ok (.invokevirtual 53, 3) := by decide +kernel
theorem dX1_areSpoiled_33 : decode cX1_areSpoiled 33 = .ok (.ifCond .eq 7, 3) := by decide +kernel
theorem dX1_areSpoiled_36 : decode cX1_areSpoiled 36 = .ok (.iconst 1, 1) := by decide +kernel
theorem dX1_areSpoiled_37 : decode cX1_areSpoiled 37 = .ok (.goto 4, 3) := by decide +kernel
theorem dX1_areSpoiled_40 : decode cX1_areSpoiled 40 = .ok (.iconst 0, 1) := by decide +kernel
theorem dX1_areSpoiled_41 : decode cX1_areSpoiled 41 = .ok (.ireturn, 1) := by decide +kernel
set_option maxRecDepth 20000 in
theorem ggX2_init_X1_init : GoodIn wsX2_init wsX1_init := goodIn_r _ [12, 13, 2, 3, 14, 15, 16, 17, 18, 19, 20, 21, 8, 22, 34, 35, 43, 44] (by decide +kernel) (by decide +kernel)
set_option maxRecDepth 20000 in
theorem gX2_init_X1_init : GoodIn wsX2_init (wsX1_init) := ggX2_init_X1_init
set_option maxRecDepth 20000 in
theorem ggX2_init_X2_clear : GoodIn wsX2_init wsX2_clear := goodIn_r _ [27, 7, 28, 29, 30, 31, 32, 33, 9, 36, 37, 38, 39, 40, 41, 42, 34, 35] (by decide +kernel) (by decide +kernel)
set_option maxRecDepth 20000 in
theorem gX2_init_X2_clear : GoodIn wsX2_init (wsV RX2 22 RX2 yX2_clear wsX2_clear) := goodIn_app (goodIn_of _ (by decide +kernel)) ggX2_init_X2_clear
theorem dX2_init_0 : decode cX2_init 0 = .ok (.aload_n 0, 1) := by decide +kernel
theorem dX2_init_1 : decode cX2_init 1 = .ok (.invokespecial 3, 3) := by decide +kernel
theorem dX2_init_4 : decode cX2_init 4 = .ok (.aload_n 0, 1) := by decide +kernel
theorem dX2_init_5 : decode cX2_init 5 = .ok (.new 9, 3) := by decide +kernel
theorem dX2_init_8 : decode cX2_init 8 = .ok (.dup, 1) := by decide +kernel
theorem dX2_init_9 : decode cX2_init 9 = .ok (.invokespecial 11, 3) := by decide +kernel
theorem dX2_init_12 : decode cX2_init 12 = .ok (.putfield 12, 3) := by decide +kernel
theorem dX2_init_15 : decode cX2_init 15 = .ok (.aload_n 0, 1) := by decide +kernel
theorem dX2_init_16 : decode cX2_init 16 = .ok (.bipush 25, 2) := by decide +kernel
theorem dX2_init_18 : decode cX2_init 18 = .ok (.newarray .int, 2) := by decide +kernel
theorem dX2_init_20 : decode cX2_init 20 = .ok (.putfield 18, 3) := by decide +kernel
theorem dX2_init_23 : decode cX2_init 23 = .ok (.aload_n 0, 1) := by decide +kernel
theorem dX2_init_24 : decode cX2_init 24 = .ok (.invokevirtual 22, 3) := by decide +kernel
theorem dX2_init_27 : decode cX2_init 27 = .ok (.return_, 1) := by decide +kernel
theorem dX2_clear_0 : decode cX2_clear 0 = .ok (.aload_n 0, 1) := by decide +kernel
theorem dX2_clear_1 : decode cX2_clear 1 = .ok (.getfield 12, 3) := by decide +kernel
theorem dX2_clear_4 : decode cX2_clear 4 = .ok (.iconst 0, 1) := by decide +kernel
theorem dX2_clear_5 : decode cX2_clear 5 = .ok (.putfield 25, 3) := by decide +kernel
theorem dX2_clear_8 : decode cX2_clear 8 = .ok (.aload_n 0, 1) := by decide +kernel
theorem dX2_clear_9 : decode cX2_clear 9 = .ok (.iconst 2, 1) := by decide +kernel
theorem dX2_clear_10 : decode cX2_clear 10 = .ok (.putfield 29, 3) := by decide +kernel
theorem dX2_clear_13 : decode cX2_clear 13 = .ok (.aload_n 0, 1) := by decide +kernel
theorem dX2_clear_14 : decode cX2_clear 14 = .ok (.bipush 8, 2) := by decide +kernel
theorem dX2_clear_16 : decode cX2_clear 16 = .ok (.putfield 32, 3) := by decide +kernel
theorem dX2_clear_19 : decode cX2_clear 19 = .ok (.aload_n 0, 1) := by decide +kernel
theorem dX2_clear_20 : decode cX2_clear 20 = .ok (.bipush 20, 2) := by decide +kernel
theorem dX2_clear_22 : decode cX2_clear 22 = .ok (.putfield 35, 3) := by decide +kernel
theorem dX2_clear_25 : decode cX2_clear 25 = .ok (.aload_n 0, 1) := by decide +kernel
theorem dX2_clear_26 : decode cX2_clear 26 = .ok (.iconst 0, 1) := by decide +kernel
theorem dX2_clear_27 : decode cX2_clear 27 = .ok (.putfield 38, 3) := by decide +kernel
theorem dX2_clear_30 : decode cX2_clear 30 = .ok (.aload_n 0, 1) := by decide +kernel
theorem dX2_clear_31 : decode cX2_clear 31 = .ok (.iconst 0, 1) := by decide +kernel
theorem dX2_clear_32 : decode cX2_clear 32 = .ok (.putfield 41, 3) := by decide +kernel
theorem dX2_clear_35 : decode cX2_clear 35 = .ok (.iconst 0, 1) := by decide +kernel
theorem dX2_clear_36 : decode cX2_clear 36 = .ok (.istore_n 1, 1) := by decide +kernel
theorem dX2_clear_37 : decode cX2_clear 37 = .ok (.iload_n 1, 1) := by decide +kernel
theorem dX2_clear_38 : decode cX2_clear 38 = .ok (.iconst 5, 1) := by decide +kernel
theorem dX2_clear_39 : decode cX2_clear 39 = .ok (.if_icmp .ge 42, 3) := by decide +kernel
theorem dX2_clear_42 : decode cX2_clear 42 = .ok (.iconst 0, 1) := by decide +kernel
theorem dX2_clear_43 : decode cX2_clear 43 = .ok (.istore_n 2, 1) := by decide +kernel
theorem dX2_clear_44 : decode cX2_clear 44 = .ok (.iload_n 2, 1) := by decide +kernel
theorem dX2_clear_45 : decode cX2_clear 45 = .ok (.iconst 5, 1) := by decide +kernel
theorem dX2_clear_46 : decode cX2_clear 46 = .ok (.if_icmp .ge 29, 3) := by decide +kernel
theorem dX2_clear_49 : decode cX2_clear 49 = .ok (.aload_n 0, 1) := by decide +kernel
theorem dX2_clear_50 : decode cX2_clear 50 = .ok (.getfield 18, 3) := by decide +kernel
theorem dX2_clear_53 : decode cX2_clear 53 = .ok (.iload_n 1, 1) := by decide +kernel
theorem dX2_clear_54 : decode cX2_clear 54 = .ok (.iconst 5, 1) := by decide +kernel
theorem dX2_clear_55 : decode cX2_clear 55 = .ok (.imul, 1) := by decide +kernel
theorem dX2_clear_56 : decode cX2_clear 56 = .ok (.iload_n 2, 1) := by decide +kernel
theorem dX2_clear_57 : decode cX2_clear 57 = .ok (.iadd, 1) := by decide +kernel
theorem dX2_clear_58 : decode cX2_clear 58 = .ok (.iload_n 1, 1) := by decide +kernel
theorem dX2_clear_59 : decode cX2_clear 59 = .ok (.iload_n 2, 1) := by decide +kernel
theorem dX2_clear_60 : decode cX2_clear 60 = .ok (.if_icmp .ne 7, 3) := by decide +kernel
theorem dX2_clear_63 : decode cX2_clear 63 = .ok (.iconst 0, 1) := by decide +kernel
theorem dX2_clear_64 : decode cX2_clear 64 = .ok (.goto 4, 3) := by decide +kernel
theorem dX2_clear_67 : decode cX2_clear 67 = .ok (.iconst 3, 1) := by decide +kernel
theorem dX2_clear_68 : decode cX2_clear 68 = .ok (.iastore, 1) := by decide +kernel
theorem dX2_clear_69 : decode cX2_clear 69 = .ok (.iinc 2 1, 3) := by decide +kernel
theorem dX2_clear_72 : decode cX2_clear 72 = .ok (.goto (-28), 3) := by decide +kernel
theorem dX2_clear_75 : decode cX2_clear 75 = .ok (.iinc 1 1, 3) := by decide +kernel
theorem dX2_clear_78 : decode cX2_clear 78 = .ok (.goto (-41), 3) := by decide +kernel
theorem dX2_clear_81 : decode cX2_clear 81 = .ok (.return_, 1) := by decide +kernel
set_option maxRecDepth 20000 in
theorem ggX2_copyFrom_X1_copyFrom : GoodIn wsX2_copyFrom wsX1_copyFrom := goodIn_r _ [11, 12, 13, 14, 15, 16, 17, 18, 19, 20, 21, 22, 23, 24, 32, 33, 34, 35] (by decide +kernel) (by decide +kernel)
set_option maxRecDepth 20000 in
theorem gX2_copyFrom_X1_copyFrom : GoodIn wsX2_copyFrom (wsV RX2 45 RX1 yX1_copyFrom wsX1_copyFrom) := goodIn_app (goodIn_of _ (by decide +kernel)) ggX2_copyFrom_X1_copyFrom
theorem dX2_copyFrom_0 : decode cX2_copyFrom 0 = .ok (.aload_n 0, 1) := by decide +kernel
theorem dX2_copyFrom_1 : decode cX2_copyFrom 1 = .ok (.getfield 12, 3) := by decide +kernel
theorem dX2_copyFrom_4 : decode cX2_copyFrom 4 = .ok (.aload_n 1, 1) := by decide +kernel
theorem dX2_copyFrom_5 : decode cX2_copyFrom 5 = .ok (.getfield 12, 3) := by decide +kernel
theorem dX2_copyFrom_8 : decode cX2_copyFrom 8 = .ok (.invokevirtual 45, 3) := by decide +kernel
theorem dX2_copyFrom_11 : decode cX2_copyFrom 11 = .ok (.aload_n 0, 1) := by decide +kernel
theorem dX2_copyFrom_12 : decode cX2_copyFrom 12 = .ok (.aload_n 1, 1) := by decide +kernel
theorem dX2_copyFrom_13 : decode cX2_copyFrom 13 = .ok (.getfield 29, 3) := by decide +kernel
theorem dX2_copyFrom_16 : decode cX2_copyFrom 16 = .ok (.putfield 29, 3) := by decide +kernel
theorem dX2_copyFrom_19 : decode cX2_copyFrom 19 = .ok (.aload_n 0, 1) := by decide +kernel
theorem dX2_copyFrom_20 : decode cX2_copyFrom 20 = .ok (.aload_n 1, 1) := by decide +kernel
theorem dX2_copyFrom_21 : decode cX2_copyFrom 21 = .ok (.getfield 32, 3) := by decide +kernel
theorem dX2_copyFrom_24 : decode cX2_copyFrom 24 = .ok (.putfield 32, 3) := by decide +kernel
theorem dX2_copyFrom_27 : decode cX2_copyFrom 27 = .ok (.aload_n 0, 1) := by decide +kernel
theorem dX2_copyFrom_28 : decode cX2_copyFrom 28 = .ok (.aload_n 1, 1) := by decide +kernel
theorem dX2_copyFrom_29 : decode cX2_copyFrom 29 = .ok (.getfield 35, 3) := by decide +kernel
theorem dX2_copyFrom_32 : decode cX2_copyFrom 32 = .ok (.putfield 35, 3) := by decide +kernel
theorem dX2_copyFrom_35 : decode cX2_copyFrom 35 = .ok (.aload_n 0, 1) := by decide +kernel
theorem dX2_copyFrom_36 : decode cX2_copyFrom 36 = .ok (.aload_n 1, 1) := by decide +kernel
theorem dX2_copyFrom_37 : decode cX2_copyFrom 37 = .ok (.getfield 38, 3) := by decide +kernel
theorem dX2_copyFrom_40 : decode cX2_copyFrom 40 = .ok (.putfield 38, 3) := by decide +kernel
theorem dX2_copyFrom_43 : decode cX2_copyFrom 43 = .ok (.iconst 0, 1) := by decide +kernel
theorem dX2_copyFrom_44 : decode cX2_copyFrom 44 = .ok (.istore_n 2, 1) := by decide +kernel
theorem dX2_copyFrom_45 : decode cX2_copyFrom 45 = .ok (.iload_n 2, 1) := by decide +kernel
theorem dX2_copyFrom_46 : decode cX2_copyFrom 46 = .ok (.aload_n 0, 1) := by decide +kernel
theorem dX2_copyFrom_47 : decode cX2_copyFrom 47 = .ok (.getfield 18, 3) := by decide +kernel
theorem dX2_copyFrom_50 : decode cX2_copyFrom 50 = .ok (.arraylength, 1) := by decide +kernel
theorem dX2_copyFrom_51 : decode cX2_copyFrom 51 = .ok (.if_icmp .ge 21, 3) := by decide +kernel
theorem dX2_copyFrom_54 : decode cX2_copyFrom 54 = .ok (.aload_n 0, 1) := by decide +kernel
theorem dX2_copyFrom_55 : decode cX2_copyFrom 55 = .ok (.getfield 18, 3) := by decide +kernel
theorem dX2_copyFrom_58 : decode cX2_copyFrom 58 = .ok (.iload_n 2, 1) := by decide +kernel
theorem dX2_copyFrom_59 : decode cX2_copyFrom 59 = .ok (.aload_n 1, 1) := by decide +kernel
theorem dX2_copyFrom_60 : decode cX2_copyFrom 60 = .ok (.getfield 18, 3) := by decide +kernel
theorem dX2_copyFrom_63 : decode cX2_copyFrom 63 = .ok (.iload_n 2, 1) := by decide +kernel
theorem dX2_copyFrom_64 : decode cX2_copyFrom 64 = .ok (.iaload, 1) := by decide +kernel
theorem dX2_copyFrom_65 : decode cX2_copyFrom 65 = .ok (.iastore, 1) := by decide +kernel
theorem dX2_copyFrom_66 : decode cX2_copyFrom 66 = .ok (.iinc 2 1, 3) := by decide +kernel
theorem dX2_copyFrom_69 : decode cX2_copyFrom 69 = .ok (.goto (-24), 3) := by decide +kernel
theorem dX2_copyFrom_72 : decode cX2_copyFrom 72 = .ok (.return_, 1) := by decide +kernel
theorem dX2_isPlace_0 : decode cX2_isPlace 0 = .ok (.iload_n 1, 1) := by decide +kernel
theorem dX2_isPlace_1 : decode cX2_isPlace 1 = .ok (.ifCond .lt 15, 3) := by decide +kernel
theorem dX2_isPlace_4 : decode cX2_isPlace 4 = .ok (.iload_n 1, 1) := by decide +kernel
theorem dX2_isPlace_5 : decode cX2_isPlace 5 = .ok (.aload_n 0, 1) := by decide +kernel
theorem dX2_isPlace_6 : decode cX2_isPlace 6 = .ok (.getfield 29, 3) := by decide +kernel
theorem dX2_isPlace_9 : decode cX2_isPlace 9 = .ok (.if_icmp .ge 7, 3) := by decide +kernel
theorem dX2_isPlace_12 : decode cX2_isPlace 12 = .ok (.iconst 1, 1) := by decide +kernel
theorem dX2_isPlace_13 : decode cX2_isPlace 13 = .ok (.goto 4, 3) := by decide +kernel
theorem dX2_isPlace_16 : decode cX2_isPlace 16 = .ok (.iconst 0, 1) := by decide +kernel
theorem dX2_isPlace_17 : decode cX2_isPlace 17 = .ok (.ireturn, 1) := by decide +kernel
theorem dX2_isSort_0 : decode cX2_isSort 0 = .ok (.iload_n 1, 1) := by decide +kernel
theorem dX2_isSort_1 : decode cX2_isSort 1 = .ok (.ifCond .lt 15, 3) := by decide +kernel
theorem dX2_isSort_4 : decode cX2_isSort 4 = .ok (.iload_n 1, 1) := by decide +kernel
theorem dX2_isSort_5 : decode cX2_isSort 5 = .ok (.aload_n 0, 1) := by decide +kernel
theorem dX2_isSort_6 : decode cX2_isSort 6 = .ok (.getfield 32, 3) := by decide +kernel
theorem dX2_isSort_9 : decode cX2_isSort 9 = .ok (.if_icmp .ge 7, 3) := by decide +kernel
theorem dX2_isSort_12 : decode cX2_isSort 12 = .ok (.iconst 1, 1) := by decide +kernel
theorem dX2_isSort_13 : decode cX2_isSort 13 = .ok (.goto 4, 3) := by decide +kernel
theorem dX2_isSort_16 : decode cX2_isSort 16 = .ok (.iconst 0, 1) := by decide +kernel
theorem dX2_isSort_17 : decode cX2_isSort 17 = .ok (.ireturn, 1) := by decide +kernel
set_option maxRecDepth 20000 in
theorem ggX2_minutesBetween_X2_isPlace : GoodIn wsX2_minutesBetween wsX2_isPlace := goodIn_r _ [6, 7, 8, 9, 10, 11, 12, 13, 14] (by decide +kernel) (by decide +kernel)
set_option maxRecDepth 20000 in
theorem gX2_minutesBetween_X2_isPlace : GoodIn wsX2_minutesBetween (wsV RX2 49 RX2 yX2_isPlace wsX2_isPlace) := goodIn_app (goodIn_of _ (by decide +kernel)) ggX2_minutesBetween_X2_isPlace
theorem dX2_minutesBetween_0 : decode cX2_minutesBetween 0 = .ok (.aload_n 0, 1) := by decide +kernel
theorem dX2_minutesBetween_1 : decode cX2_minutesBetween 1 = .ok (.iload_n 1, 1) := by decide +kernel
theorem dX2_minutesBetween_2 : decode cX2_minutesBetween 2 = .ok (.invokevirtual 49, 3) := by decide +kernel
theorem dX2_minutesBetween_5 : decode cX2_minutesBetween 5 = .ok (.ifCond .eq 24, 3) := by decide +kernel
theorem dX2_minutesBetween_8 : decode cX2_minutesBetween 8 = .ok (.aload_n 0, 1) := by decide +kernel
theorem dX2_minutesBetween_9 : decode cX2_minutesBetween 9 = .ok (.iload_n 2, 1) := by decide +kernel
theorem dX2_minutesBetween_10 : decode cX2_minutesBetween 10 = .ok (.invokevirtual 49, 3) := by decide +kernel
theorem dX2_minutesBetween_13 : decode cX2_minutesBetween 13 = .ok (.ifCond .eq 16, 3) := by decide +kernel
theorem dX2_minutesBetween_16 : decode cX2_minutesBetween 16 = .ok (.aload_n 0, 1) := by decide +kernel
theorem dX2_minutesBetween_17 : decode cX2_minutesBetween 17 = .ok (.getfield 18, 3) := by decide +kernel
theorem dX2_minutesBetween_20 : decode cX2_minutesBetween 20 = .ok (.iload_n 1, 1) := by decide +kernel
theorem dX2_minutesBetween_21 : decode cX2_minutesBetween 21 = .ok (.iconst 5, 1) := by decide +kernel
theorem dX2_minutesBetween_22 : decode cX2_minutesBetween 22 = .ok (.imul, 1) := by decide +kernel
theorem dX2_minutesBetween_23 : decode cX2_minutesBetween 23 = .ok (.iload_n 2, 1) := by decide +kernel
theorem dX2_minutesBetween_24 : decode cX2_minutesBetween 24 = .ok (.iadd, 1) := by decide +kernel
theorem dX2_minutesBetween_25 : decode cX2_minutesBetween 25 = .ok (.iaload, 1) := by decide +kernel
theorem dX2_minutesBetween_26 : decode cX2_minutesBetween 26 = .ok (.goto 4, 3) := by decide +kernel
theorem dX2_minutesBetween_29 : decode cX2_minutesBetween 29 = .ok (.iconst 0, 1) := by decide +kernel
theorem dX2_minutesBetween_30 : decode cX2_minutesBetween 30 = .ok (.ireturn, 1) := by decide +kernel
theorem dX2_setPlaces_0 : decode cX2_setPlaces 0 = .ok (.iload_n 1, 1) := by decide +kernel
theorem dX2_setPlaces_1 : decode cX2_setPlaces 1 = .ok (.iconst 1, 1) := by decide +kernel
theorem dX2_setPlaces_2 : decode cX2_setPlaces 2 = .ok (.if_icmp .lt 15, 3) := by decide +kernel
theorem dX2_setPlaces_5 : decode cX2_setPlaces 5 = .ok (.iload_n 1, 1) := by decide +kernel
theorem dX2_setPlaces_6 : decode cX2_setPlaces 6 = .ok (.iconst 5, 1) := by decide +kernel
theorem dX2_setPlaces_7 : decode cX2_setPlaces 7 = .ok (.if_icmp .gt 10, 3) := by decide +kernel
theorem dX2_setPlaces_10 : decode cX2_setPlaces 10 = .ok (.aload_n 0, 1) := by decide +kernel
theorem dX2_setPlaces_11 : decode cX2_setPlaces 11 = .ok (.getfield 41, 3) := by decide +kernel
theorem dX2_setPlaces_14 : decode cX2_setPlaces 14 = .ok (.ifCond .eq 5, 3) := by decide +kernel
theorem dX2_setPlaces_17 : decode cX2_setPlaces 17 = .ok (.iconst 0, 1) := by decide +kernel
theorem dX2_setPlaces_18 : decode cX2_setPlaces 18 = .ok (.ireturn, 1) := by decide +kernel
theorem dX2_setPlaces_19 : decode cX2_setPlaces 19 = .ok (.aload_n 0, 1) := by decide +kernel
theorem dX2_setPlaces_20 : decode cX2_setPlaces 20 = .ok (.iload_n 1, 1) := by decide +kernel
theorem dX2_setPlaces_21 : decode cX2_setPlaces 21 = .ok (.putfield 29, 3) := by decide +kernel
theorem dX2_setPlaces_24 : decode cX2_setPlaces 24 = .ok (.iconst 1, 1) := by decide +kernel
theorem dX2_setPlaces_25 : decode cX2_setPlaces 25 = .ok (.ireturn, 1) := by decide +kernel
set_option maxRecDepth 20000 in
theorem ggX2_setMinutes_X2_isPlace : GoodIn wsX2_setMinutes wsX2_isPlace := goodIn_r _ [7, 8, 9, 10, 11, 12, 13, 14, 15] (by decide +kernel) (by decide +kernel)
set_option maxRecDepth 20000 in
theorem gX2_setMinutes_X2_isPlace : GoodIn wsX2_setMinutes (wsV RX2 49 RX2 yX2_isPlace wsX2_isPlace) := goodIn_app (goodIn_of _ (by decide +kernel)) ggX2_setMinutes_X2_isPlace
theorem dX2_setMinutes_0 : decode cX2_setMinutes 0 = .ok (.aload_n 0, 1) := by decide +kernel
theorem dX2_setMinutes_1 : decode cX2_setMinutes 1 = .ok (.iload_n 1, 1) := by decide +kernel
theorem dX2_setMinutes_2 : decode cX2_setMinutes 2 = .ok (.invokevirtual 49, 3) := by decide +kernel
theorem dX2_setMinutes_5 : decode cX2_setMinutes 5 = .ok (.ifCond .eq 26, 3) := by decide +kernel
theorem dX2_setMinutes_8 : decode cX2_setMinutes 8 = .ok (.aload_n 0, 1) := by decide +kernel
theorem dX2_setMinutes_9 : decode cX2_setMinutes 9 = .ok (.iload_n 2, 1) := by decide +kernel
theorem dX2_setMinutes_10 : decode cX2_setMinutes 10 = .ok (.invokevirtual 49, 3) := by decide +kernel
theorem dX2_setMinutes_13 : decode cX2_setMinutes 13 = .ok (.ifCond .eq 18, 3) := by decide +kernel
theorem dX2_setMinutes_16 : decode cX2_setMinutes 16 = .ok (.iload_n 1, 1) := by decide +kernel
theorem dX2_setMinutes_17 : decode cX2_setMinutes 17 = .ok (.iload_n 2, 1) := by decide +kernel
theorem dX2_setMinutes_18 : decode cX2_setMinutes 18 = .ok (.if_icmp .eq 13, 3) := by decide +kernel
theorem dX2_setMinutes_21 : decode cX2_setMinutes 21 = .ok (.iload_n 3, 1) := by decide +kernel
theorem dX2_setMinutes_22 : decode cX2_setMinutes 22 = .ok (.ifCond .lt 9, 3) := by decide +kernel
theorem dX2_setMinutes_25 : decode cX2_setMinutes 25 = .ok (.iload_n 3, 1) := by decide +kernel
theorem dX2_setMinutes_26 : decode cX2_setMinutes 26 = .ok (.bipush 60, 2) := by decide +kernel
theorem dX2_setMinutes_28 : decode cX2_setMinutes 28 = .ok (.if_icmp .le 5, 3) := by decide +kernel
theorem dX2_setMinutes_31 : decode cX2_setMinutes 31 = .ok (.iconst 0, 1) := by decide +kernel
theorem dX2_setMinutes_32 : decode cX2_setMinutes 32 = .ok (.ireturn, 1) := by decide +kernel
theorem dX2_setMinutes_33 : decode cX2_setMinutes 33 = .ok (.aload_n 0, 1) := by decide +kernel
theorem dX2_setMinutes_34 : decode cX2_setMinutes 34 = .ok (.getfield 18, 3) := by decide +kernel
theorem dX2_setMinutes_37 : decode cX2_setMinutes 37 = .ok (.iload_n 1, 1) := by decide +kernel
theorem dX2_setMinutes_38 : decode cX2_setMinutes 38 = .ok (.iconst 5, 1) := by decide +kernel
theorem dX2_setMinutes_39 : decode cX2_setMinutes 39 = .ok (.imul, 1) := by decide +kernel
theorem dX2_setMinutes_40 : decode cX2_setMinutes 40 = .ok (.iload_n 2, 1) := by decide +kernel
theorem dX2_setMinutes_41 : decode cX2_setMinutes 41 = .ok (.iadd, 1) := by decide +kernel
theorem dX2_setMinutes_42 : decode cX2_setMinutes 42 = .ok (.iload_n 3, 1) := by decide +kernel
theorem dX2_setMinutes_43 : decode cX2_setMinutes 43 = .ok (.iastore, 1) := by decide +kernel
theorem dX2_setMinutes_44 : decode cX2_setMinutes 44 = .ok (.aload_n 0, 1) := by decide +kernel
theorem dX2_setMinutes_45 : decode cX2_setMinutes 45 = .ok (.getfield 18, 3) := by decide +kernel
theorem dX2_setMinutes_48 : decode cX2_setMinutes 48 = .ok (.iload_n 2, 1) := by decide +kernel
theorem dX2_setMinutes_49 : decode cX2_setMinutes 49 = .ok (.iconst 5, 1) := by decide +kernel
theorem dX2_setMinutes_50 : decode cX2_setMinutes 50 = .ok (.imul, 1) := by decide +kernel
theorem dX2_setMinutes_51 : decode cX2_setMinutes 51 = .ok (.iload_n 1, 1) := by decide +kernel
theorem dX2_setMinutes_52 : decode cX2_setMinutes 52 = .ok (.iadd, 1) := by decide +kernel
theorem dX2_setMinutes_53 : decode cX2_setMinutes 53 = .ok (.iload_n 3, 1) := by decide +kernel
theorem dX2_setMinutes_54 : decode cX2_setMinutes 54 = .ok (.iastore, 1) := by decide +kernel
theorem dX2_setMinutes_55 : decode cX2_setMinutes 55 = .ok (.aload_n 0, 1) := by decide +kernel
theorem dX2_setMinutes_56 : decode cX2_setMinutes 56 = .ok (.iconst 1, 1) := by decide +kernel
theorem dX2_setMinutes_57 : decode cX2_setMinutes 57 = .ok (.putfield 41, 3) := by decide +kernel
theorem dX2_setMinutes_60 : decode cX2_setMinutes 60 = .ok (.iconst 1, 1) := by decide +kernel
theorem dX2_setMinutes_61 : decode cX2_setMinutes 61 = .ok (.ireturn, 1) := by decide +kernel
theorem dX2_setHour_0 : decode cX2_setHour 0 = .ok (.iload_n 1, 1) := by decide +kernel
theorem dX2_setHour_1 : decode cX2_setHour 1 = .ok (.iconst 1, 1) := by decide +kernel
theorem dX2_setHour_2 : decode cX2_setHour 2 = .ok (.if_icmp .lt 9, 3) := by decide +kernel
theorem dX2_setHour_5 : decode cX2_setHour 5 = .ok (.iload_n 1, 1) := by decide +kernel
theorem dX2_setHour_6 : decode cX2_setHour 6 = .ok (.bipush 60, 2) := by decide +kernel
theorem dX2_setHour_8 : decode cX2_setHour 8 = .ok (.if_icmp .le 5, 3) := by decide +kernel
theorem dX2_setHour_11 : decode cX2_setHour 11 = .ok (.iconst 0, 1) := by decide +kernel
theorem dX2_setHour_12 : decode cX2_setHour 12 = .ok (.ireturn, 1) := by decide +kernel
theorem dX2_setHour_13 : decode cX2_setHour 13 = .ok (.aload_n 0, 1) := by decide +kernel
theorem dX2_setHour_14 : decode cX2_setHour 14 = .ok (.iload_n 1, 1) := by decide +kernel
theorem dX2_setHour_15 : decode cX2_setHour 15 = .ok (.putfield 35, 3) := by decide +kernel
theorem dX2_setHour_18 : decode cX2_setHour 18 = .ok (.iconst 1, 1) := by decide +kernel
theorem dX2_setHour_19 : decode cX2_setHour 19 = .ok (.ireturn, 1) := by decide +kernel
theorem dX2_setLaw_0 : decode cX2_setLaw 0 = .ok (.iload_n 1, 1) := by decide +kernel
theorem dX2_setLaw_1 : decode cX2_setLaw 1 = .ok (.ifCond .lt 8, 3) := by decide +kernel
theorem dX2_setLaw_4 : decode cX2_setLaw 4 = .ok (.iload_n 1, 1) := by decide +kernel
theorem dX2_setLaw_5 : decode cX2_setLaw 5 = .ok (.iconst 2, 1) := by decide +kernel
theorem dX2_setLaw_6 : decode cX2_setLaw 6 = .ok (.if_icmp .le 5, 3) := by decide +kernel
theorem dX2_setLaw_9 : decode cX2_setLaw 9 = .ok (.iconst 0, 1) := by decide +kernel
theorem dX2_setLaw_10 : decode cX2_setLaw 10 = .ok (.ireturn, 1) := by decide +kernel
theorem dX2_setLaw_11 : decode cX2_setLaw 11 = .ok (.aload_n 0, 1) := by decide +kernel
theorem dX2_setLaw_12 : decode cX2_setLaw 12 = .ok (.iload_n 1, 1) := by decide +kernel
theorem dX2_setLaw_13 : decode cX2_setLaw 13 = .ok (.putfield 38, 3) := by decide +kernel
theorem dX2_setLaw_16 : decode cX2_setLaw 16 = .ok (.iconst 1, 1) := by decide +kernel
theorem dX2_setLaw_17 : decode cX2_setLaw 17 = .ok (.ireturn, 1) := by decide +kernel
theorem dX2_setSorts_0 : decode cX2_setSorts 0 = .ok (.iload_n 1, 1) := by decide +kernel
theorem dX2_setSorts_1 : decode cX2_setSorts 1 = .ok (.iconst 2, 1) := by decide +kernel
theorem dX2_setSorts_2 : decode cX2_setSorts 2 = .ok (.if_icmp .lt 9, 3) := by decide +kernel
theorem dX2_setSorts_5 : decode cX2_setSorts 5 = .ok (.iload_n 1, 1) := by decide +kernel
theorem dX2_setSorts_6 : decode cX2_setSorts 6 = .ok (.bipush 8, 2) := by decide +kernel
theorem dX2_setSorts_8 : decode cX2_setSorts 8 = .ok (.if_icmp .le 5, 3) := by decide +kernel
theorem dX2_setSorts_11 : decode cX2_setSorts 11 = .ok (.iconst 0, 1) := by decide +kernel
theorem dX2_setSorts_12 : decode cX2_setSorts 12 = .ok (.ireturn, 1) := by decide +kernel
theorem dX2_setSorts_13 : decode cX2_setSorts 13 = .ok (.aload_n 0, 1) := by decide +kernel
theorem dX2_setSorts_14 : decode cX2_setSorts 14 = .ok (.iload_n 1, 1) := by decide +kernel
theorem dX2_setSorts_15 : decode cX2_setSorts 15 = .ok (.putfield 32, 3) := by decide +kernel
theorem dX2_setSorts_18 : decode cX2_setSorts 18 = .ok (.iconst 1, 1) := by decide +kernel
theorem dX2_setSorts_19 : decode cX2_setSorts 19 = .ok (.ireturn, 1) := by decide +kernel
theorem dX3_init_0 : decode cX3_init 0 = .ok (.aload_n 0, 1) := by decide +kernel
theorem dX3_init_1 : decode cX3_init 1 = .ok (.invokespecial 1, 3) := by decide +kernel
theorem dX3_init_4 : decode cX3_init 4 = .ok (.aload_n 0, 1) := by decide +kernel
theorem dX3_init_5 : decode cX3_init 5 = .ok (.iload_n 1, 1) := by decide +kernel
theorem dX3_init_6 : decode cX3_init 6 = .ok (.newarray .int, 2) := by decide +kernel
theorem dX3_init_8 : decode cX3_init 8 = .ok (.putfield 7, 3) := by decide +kernel
theorem dX3_init_11 : decode cX3_init 11 = .ok (.aload_n 0, 1) := by decide +kernel
theorem dX3_init_12 : decode cX3_init 12 = .ok (.iload_n 1, 1) := by decide +kernel
theorem dX3_init_13 : decode cX3_init 13 = .ok (.newarray .int, 2) := by decide +kernel
theorem dX3_init_15 : decode cX3_init 15 = .ok (.putfield 13, 3) := by decide +kernel
theorem dX3_init_18 : decode cX3_init 18 = .ok (.aload_n 0, 1) := by decide +kernel
theorem dX3_init_19 : decode cX3_init 19 = .ok (.iload_n 1, 1) := by decide +kernel
theorem dX3_init_20 : decode cX3_init 20 = .ok (.newarray .int, 2) := by decide +kernel
theorem dX3_init_22 : decode cX3_init 22 = .ok (.putfield 16, 3) := by decide +kernel
theorem dX3_init_25 : decode cX3_init 25 = .ok (.return_, 1) := by decide +kernel
set_option maxRecDepth 20000 in
theorem ggX3_fillFrom_X2_minutesBetween : GoodIn wsX3_fillFrom wsX2_minutesBetween := goodIn_r _ [10, 11, 12, 13, 14, 9, 15, 16, 34, 35, 36, 37, 38, 39, 40] (by decide +kernel) (by decide +kernel)
set_option maxRecDepth 20000 in
theorem gX3_fillFrom_X2_minutesBetween : GoodIn wsX3_fillFrom (wsV RX3 33 RX2 yX2_minutesBetween wsX2_minutesBetween) := goodIn_app (goodIn_of _ (by decide +kernel)) ggX3_fillFrom_X2_minutesBetween
set_option maxRecDepth 20000 in
theorem ggX3_fillFrom_X3_insert : GoodIn wsX3_fillFrom wsX3_insert := goodIn_r _ [21, 1, 22, 23, 24, 25, 26, 27, 28] (by decide +kernel) (by decide +kernel)
set_option maxRecDepth 20000 in
theorem gX3_fillFrom_X3_insert : GoodIn wsX3_fillFrom (wsV RX3 39 RX3 yX3_insert wsX3_insert) := goodIn_app (goodIn_of _ (by decide +kernel)) ggX3_fillFrom_X3_insert
theorem dX3_fillFrom_0 : decode cX3_fillFrom 0 = .ok (.aload_n 0, 1) := by decide +kernel
theorem dX3_fillFrom_1 : decode cX3_fillFrom 1 = .ok (.iconst 0, 1) := by decide +kernel
theorem dX3_fillFrom_2 : decode cX3_fillFrom 2 = .ok (.putfield 19, 3) := by decide +kernel
theorem dX3_fillFrom_5 : decode cX3_fillFrom 5 = .ok (.iconst 0, 1) := by decide +kernel
theorem dX3_fillFrom_6 : decode cX3_fillFrom 6 = .ok (.istore 4, 2) := by decide +kernel
theorem dX3_fillFrom_8 : decode cX3_fillFrom 8 = .ok (.iload 4, 2) := by decide +kernel
theorem dX3_fillFrom_10 : decode cX3_fillFrom 10 = .ok (.aload_n 1, 1) := by decide +kernel
theorem dX3_fillFrom_11 : decode cX3_fillFrom 11 = .ok (.getfield 23, 3) := by decide +kernel
theorem dX3_fillFrom_14 : decode cX3_fillFrom 14 = .ok (.if_icmp .ge 46, 3) := by decide +kernel
theorem dX3_fillFrom_17 : decode cX3_fillFrom 17 = .ok (.aload_n 1, 1) := by decide +kernel
theorem dX3_fillFrom_18 : decode cX3_fillFrom 18 = .ok (.getfield 26, 3) := by decide +kernel
theorem dX3_fillFrom_21 : decode cX3_fillFrom 21 = .ok (.iload 4, 2) := by decide +kernel
theorem dX3_fillFrom_23 : decode cX3_fillFrom 23 = .ok (.iaload, 1) := by decide +kernel
theorem dX3_fillFrom_24 : decode cX3_fillFrom 24 = .ok (.istore 5, 2) := by decide +kernel
theorem dX3_fillFrom_26 : decode cX3_fillFrom 26 = .ok (.aload_n 0, 1) := by decide +kernel
theorem dX3_fillFrom_27 : decode cX3_fillFrom 27 = .ok (.aload_n 1, 1) := by decide +kernel
theorem dX3_fillFrom_28 : decode cX3_fillFrom 28 = .ok (.getfield 29, 3) := by decide +kernel
theorem dX3_fillFrom_31 : decode cX3_fillFrom 31 = .ok (.iload 4, 2) := by decide +kernel
theorem dX3_fillFrom_33 : decode cX3_fillFrom 33 = .ok (.iaload, 1) := by decide +kernel
theorem dX3_fillFrom_34 : decode cX3_fillFrom 34 = .ok (.iload 5, 2) := by decide +kernel
theorem dX3_fillFrom_36 : decode cX3_fillFrom 36 = .ok (.iload 5, 2) := by decide +kernel
theorem dX3_fillFrom_38 : decode cX3_fillFrom 38 = .ok (.aload_n 2, 1) := by decide +kernel
theorem dX3_fillFrom_39 : decode cX3_fillFrom 39 = .ok (.aload_n 1, 1) := by decide +kernel
theorem dX3_fillFrom_40 : decode cX3_fillFrom 40 = .ok (.getfield 30, 3) := by decide +kernel
theorem dX3_fillFrom_43 : decode cX3_fillFrom 43 = .ok (.iload 4, 2) := by decide +kernel
theorem dX3_fillFrom_45 : decode cX3_fillFrom 45 = .ok (.iaload, 1) := by decide +kernel
theorem dX3_fillFrom_46 : decode cX3_fillFrom 46 = .ok (.iload_n 3, 1) := by decide +kernel
theorem dX3_fillFrom_47 : decode cX3_fillFrom 47 = .ok (.invokevirtual 33, 3) := by decide +kernel
theorem dX3_fillFrom_50 : decode cX3_fillFrom 50 = .ok (.iadd, 1) := by decide +kernel
theorem dX3_fillFrom_51 : decode cX3_fillFrom 51 = .ok (.invokevirtual 39, 3) := by decide +kernel
theorem dX3_fillFrom_54 : decode cX3_fillFrom 54 = .ok (.iinc 4 1, 3) := by decide +kernel
theorem dX3_fillFrom_57 : decode cX3_fillFrom 57 = .ok (.goto (-49), 3) := by decide +kernel
theorem dX3_fillFrom_60 : decode cX3_fillFrom 60 = .ok (.return_, 1) := by decide +kernel
theorem dX3_insert_0 : decode cX3_insert 0 = .ok (.aload_n 0, 1) := by decide +kernel
theorem dX3_insert_1 : decode cX3_insert 1 = .ok (.getfield 19, 3) := by decide +kernel
theorem dX3_insert_4 : decode cX3_insert 4 = .ok (.aload_n 0, 1) := by decide +kernel
theorem dX3_insert_5 : decode cX3_insert 5 = .ok (.getfield 16, 3) := by decide +kernel
theorem dX3_insert_8 : decode cX3_insert 8 = .ok (.arraylength, 1) := by decide +kernel
theorem dX3_insert_9 : decode cX3_insert 9 = .ok (.if_icmp .lt 4, 3) := by decide +kernel
theorem dX3_insert_12 : decode cX3_insert 12 = .ok (.return_, 1) := by decide +kernel
theorem dX3_insert_13 : decode cX3_insert 13 = .ok (.aload_n 0, 1) := by decide +kernel
theorem dX3_insert_14 : decode cX3_insert 14 = .ok (.getfield 19, 3) := by decide +kernel
theorem dX3_insert_17 : decode cX3_insert 17 = .ok (.istore 4, 2) := by decide +kernel
theorem dX3_insert_19 : decode cX3_insert 19 = .ok (.iload 4, 2) := by decide +kernel
theorem dX3_insert_21 : decode cX3_insert 21 = .ok (.ifCond .le 70, 3) := by decide +kernel
theorem dX3_insert_24 : decode cX3_insert 24 = .ok (.aload_n 0, 1) := by decide +kernel
theorem dX3_insert_25 : decode cX3_insert 25 = .ok (.getfield 16, 3) := by decide +kernel
theorem dX3_insert_28 : decode cX3_insert 28 = .ok (.iload 4, 2) := by decide +kernel
theorem dX3_insert_30 : decode cX3_insert 30 = .ok (.iconst 1, 1) := by decide +kernel
theorem dX3_insert_31 : decode cX3_insert 31 = .ok (.isub, 1) := by decide +kernel
theorem dX3_insert_32 : decode cX3_insert 32 = .ok (.iaload, 1) := by decide +kernel
theorem dX3_insert_33 : decode cX3_insert 33 = .ok (.iload_n 3, 1) := by decide +kernel
theorem dX3_insert_34 : decode cX3_insert 34 = .ok (.if_icmp .le 57, 3) := by decide +kernel
theorem dX3_insert_37 : decode cX3_insert 37 = .ok (.aload_n 0, 1) := by decide +kernel
theorem dX3_insert_38 : decode cX3_insert 38 = .ok (.getfield 7, 3) := by decide +kernel
theorem dX3_insert_41 : decode cX3_insert 41 = .ok (.iload 4, 2) := by decide +kernel
theorem dX3_insert_43 : decode cX3_insert 43 = .ok (.aload_n 0, 1) := by decide +kernel
theorem dX3_insert_44 : decode cX3_insert 44 = .ok (.getfield 7, 3) := by decide +kernel
theorem dX3_insert_47 : decode cX3_insert 47 = .ok (.iload 4, 2) := by decide +kernel
theorem dX3_insert_49 : decode cX3_insert 49 = .ok (.iconst 1, 1) := by decide +kernel
theorem dX3_insert_50 : decode cX3_insert 50 = .ok (.isub, 1) := by decide +kernel
theorem dX3_insert_51 : decode cX3_insert 51 = .ok (.iaload, 1) := by decide +kernel
theorem dX3_insert_52 : decode cX3_insert 52 = .ok (.iastore, 1) := by decide +kernel
theorem dX3_insert_53 : decode cX3_insert 53 = .ok (.aload_n 0, 1) := by decide +kernel
theorem dX3_insert_54 : decode cX3_insert 54 = .ok (.getfield 13, 3) := by decide +kernel
theorem dX3_insert_57 : decode cX3_insert 57 = .ok (.iload 4, 2) := by decide +kernel
theorem dX3_insert_59 : decode cX3_insert 59 = .ok (.aload_n 0, 1) := by decide +kernel
theorem dX3_insert_60 : decode cX3_insert 60 = .ok (.getfield 13, 3) := by decide +kernel
theorem dX3_insert_63 : decode cX3_insert 63 = .ok (.iload 4, 2) := by decide +kernel
theorem dX3_insert_65 : decode cX3_insert 65 = .ok (.iconst 1, 1) := by decide +kernel
theorem dX3_insert_66 : decode cX3_insert 66 = .ok (.isub, 1) := by decide +kernel
theorem dX3_insert_67 : decode cX3_insert 67 = .ok (.iaload, 1) := by decide +kernel
theorem dX3_insert_68 : decode cX3_insert 68 = .ok (.iastore, 1) := by decide +kernel
theorem dX3_insert_69 : decode cX3_insert 69 = .ok (.aload_n 0, 1) := by decide +kernel
theorem dX3_insert_70 : decode cX3_insert 70 = .ok (.getfield 16, 3) := by decide +kernel
theorem dX3_insert_73 : decode cX3_insert 73 = .ok (.iload 4, 2) := by decide +kernel
theorem dX3_insert_75 : decode cX3_insert 75 = .ok (.aload_n 0, 1) := by decide +kernel
theorem dX3_insert_76 : decode cX3_insert 76 = .ok (.getfield 16, 3) := by decide +kernel
theorem dX3_insert_79 : decode cX3_insert 79 = .ok (.iload 4, 2) := by decide +kernel
theorem dX3_insert_81 : decode cX3_insert 81 = .ok (.iconst 1, 1) := by decide +kernel
theorem dX3_insert_82 : decode cX3_insert 82 = .ok (.isub, 1) := by decide +kernel
theorem dX3_insert_83 : decode cX3_insert 83 = .ok (.iaload, 1) := by decide +kernel
theorem dX3_insert_84 : decode cX3_insert 84 = .ok (.iastore, 1) := by decide +kernel
theorem dX3_insert_85 : decode cX3_insert 85 = .ok (.iinc 4 (-1), 3) := by decide +kernel
theorem dX3_insert_88 : decode cX3_insert 88 = .ok (.goto (-69), 3) := by decide +kernel
theorem dX3_insert_91 : decode cX3_insert 91 = .ok (.aload_n 0, 1) := by decide +kernel
theorem dX3_insert_92 : decode cX3_insert 92 = .ok (.getfield 7, 3) := by decide +kernel
theorem dX3_insert_95 : decode cX3_insert 95 = .ok (.iload 4, 2) := by decide +kernel
theorem dX3_insert_97 : decode cX3_insert 97 = .ok (.iload_n 1, 1) := by decide +kernel
theorem dX3_insert_98 : decode cX3_insert 98 = .ok (.iastore, 1) := by decide +kernel
theorem dX3_insert_99 : decode cX3_insert 99 = .ok (.aload_n 0, 1) := by decide +kernel
theorem dX3_insert_100 : decode cX3_insert 100 = .ok (.getfield 13, 3) := by decide +kernel
theorem dX3_insert_103 : decode cX3_insert 103 = .ok (.iload 4, 2) := by decide +kernel
theorem dX3_insert_105 : decode cX3_insert 105 = .ok (.iload_n 2, 1) := by decide +kernel
theorem dX3_insert_106 : decode cX3_insert 106 = .ok (.iastore, 1) := by decide +kernel
theorem dX3_insert_107 : decode cX3_insert 107 = .ok (.aload_n 0, 1) := by decide +kernel
theorem dX3_insert_108 : decode cX3_insert 108 = .ok (.getfield 16, 3) := by decide +kernel
theorem dX3_insert_111 : decode cX3_insert 111 = .ok (.iload 4, 2) := by decide +kernel
theorem dX3_insert_113 : decode cX3_insert 113 = .ok (.iload_n 3, 1) := by decide +kernel
theorem dX3_insert_114 : decode cX3_insert 114 = .ok (.iastore, 1) := by decide +kernel
theorem dX3_insert_115 : decode cX3_insert 115 = .ok (.aload_n 0, 1) := by decide +kernel
theorem dX3_insert_116 : decode cX3_insert 116 = .ok (.dup, 1) := by decide +kernel
theorem dX3_insert_117 : decode cX3_insert 117 = .ok (.getfield 19, 3) := by decide +kernel
theorem dX3_insert_120 : decode cX3_insert 120 = .ok (.iconst 1, 1) := by decide +kernel
theorem dX3_insert_121 : decode cX3_insert 121 = .ok (.iadd, 1) := by decide +kernel
theorem dX3_insert_122 : decode cX3_insert 122 = .ok (.putfield 19, 3) := by decide +kernel
theorem dX3_insert_125 : decode cX3_insert 125 = .ok (.return_, 1) := by decide +kernel
theorem dX3_isAhead_0 : decode cX3_isAhead 0 = .ok (.aload_n 0, 1) := by decide +kernel
theorem dX3_isAhead_1 : decode cX3_isAhead 1 = .ok (.getfield 16, 3) := by decide +kernel
theorem dX3_isAhead_4 : decode cX3_isAhead 4 = .ok (.iload_n 1, 1) := by decide +kernel
theorem dX3_isAhead_5 : decode cX3_isAhead 5 = .ok (.iaload, 1) := by decide +kernel
theorem dX3_isAhead_6 : decode cX3_isAhead 6 = .ok (.iload_n 3, 1) := by decide +kernel
theorem dX3_isAhead_7 : decode cX3_isAhead 7 = .ok (.if_icmp .lt 23, 3) := by decide +kernel
theorem dX3_isAhead_10 : decode cX3_isAhead 10 = .ok (.aload_n 0, 1) := by decide +kernel
theorem dX3_isAhead_11 : decode cX3_isAhead 11 = .ok (.getfield 16, 3) := by decide +kernel
theorem dX3_isAhead_14 : decode cX3_isAhead 14 = .ok (.iload_n 1, 1) := by decide +kernel
theorem dX3_isAhead_15 : decode cX3_isAhead 15 = .ok (.iaload, 1) := by decide +kernel
theorem dX3_isAhead_16 : decode cX3_isAhead 16 = .ok (.iload_n 3, 1) := by decide +kernel
theorem dX3_isAhead_17 : decode cX3_isAhead 17 = .ok (.if_icmp .ne 17, 3) := by decide +kernel
theorem dX3_isAhead_20 : decode cX3_isAhead 20 = .ok (.aload_n 0, 1) := by decide +kernel
theorem dX3_isAhead_21 : decode cX3_isAhead 21 = .ok (.getfield 13, 3) := by decide +kernel
theorem dX3_isAhead_24 : decode cX3_isAhead 24 = .ok (.iload_n 1, 1) := by decide +kernel
theorem dX3_isAhead_25 : decode cX3_isAhead 25 = .ok (.iaload, 1) := by decide +kernel
theorem dX3_isAhead_26 : decode cX3_isAhead 26 = .ok (.iload_n 2, 1) := by decide +kernel
