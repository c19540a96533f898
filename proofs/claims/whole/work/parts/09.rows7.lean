theorem dX12_undo_58 : decode cX12_undo 58 = .ok (.getfield 109, 3) := by decide +kernel
theorem dX12_undo_61 : decode cX12_undo 61 = .ok (.iaload, 1) := by decide +kernel
theorem dX12_undo_62 : decode cX12_undo 62 = .ok (.isub, 1) := by decide +kernel
theorem dX12_undo_63 : decode cX12_undo 63 = .ok (.iastore, 1) := by decide +kernel
theorem dX12_undo_64 : decode cX12_undo 64 = .ok (.aload_n 0, 1) := by decide +kernel
theorem dX12_undo_65 : decode cX12_undo 65 = .ok (.getfield 109, 3) := by decide +kernel
theorem dX12_undo_68 : decode cX12_undo 68 = .ok (.ireturn, 1) := by decide +kernel
set_option maxRecDepth 20000 in
theorem ggX12_beat_X12_in : GoodIn wsX12_beat wsX12_in := goodIn_r _ [5] (by decide +kernel) (by decide +kernel)
set_option maxRecDepth 20000 in
theorem gX12_beat_X12_in : GoodIn wsX12_beat (va_wsS RX12 66 yX12_in wsX12_in) := goodIn_app (goodIn_of _ (by decide +kernel)) ggX12_beat_X12_in
theorem dX12_beat_0 : decode cX12_beat 0 = .ok (.iload_n 1, 1) := by decide +kernel
theorem dX12_beat_1 : decode cX12_beat 1 = .ok (.iconst 0, 1) := by decide +kernel
theorem dX12_beat_2 : decode cX12_beat 2 = .ok (.aload_n 0, 1) := by decide +kernel
theorem dX12_beat_3 : decode cX12_beat 3 = .ok (.getfield 19, 3) := by decide +kernel
theorem dX12_beat_6 : decode cX12_beat 6 = .ok (.iconst 0, 1) := by decide +kernel
theorem dX12_beat_7 : decode cX12_beat 7 = .ok (.iaload, 1) := by decide +kernel
theorem dX12_beat_8 : decode cX12_beat 8 = .ok (.iconst 1, 1) := by decide +kernel
theorem dX12_beat_9 : decode cX12_beat 9 = .ok (.isub, 1) := by decide +kernel
theorem dX12_beat_10 : decode cX12_beat 10 = .ok (.invokestatic 66, 3) := by decide +kernel
theorem dX12_beat_13 : decode cX12_beat 13 = .ok (.ifCond .eq 27, 3) := by decide +kernel
theorem dX12_beat_16 : decode cX12_beat 16 = .ok (.iload_n 2, 1) := by decide +kernel
theorem dX12_beat_17 : decode cX12_beat 17 = .ok (.iconst 0, 1) := by decide +kernel
theorem dX12_beat_18 : decode cX12_beat 18 = .ok (.iconst 2, 1) := by decide +kernel
theorem dX12_beat_19 : decode cX12_beat 19 = .ok (.invokestatic 66, 3) := by decide +kernel
theorem dX12_beat_22 : decode cX12_beat 22 = .ok (.ifCond .eq 18, 3) := by decide +kernel
theorem dX12_beat_25 : decode cX12_beat 25 = .ok (.aload_n 0, 1) := by decide +kernel
theorem dX12_beat_26 : decode cX12_beat 26 = .ok (.getfield 19, 3) := by decide +kernel
theorem dX12_beat_29 : decode cX12_beat 29 = .ok (.iconst 2, 1) := by decide +kernel
theorem dX12_beat_30 : decode cX12_beat 30 = .ok (.iconst 3, 1) := by decide +kernel
theorem dX12_beat_31 : decode cX12_beat 31 = .ok (.iload_n 1, 1) := by decide +kernel
theorem dX12_beat_32 : decode cX12_beat 32 = .ok (.imul, 1) := by decide +kernel
theorem dX12_beat_33 : decode cX12_beat 33 = .ok (.iadd, 1) := by decide +kernel
theorem dX12_beat_34 : decode cX12_beat 34 = .ok (.iload_n 2, 1) := by decide +kernel
theorem dX12_beat_35 : decode cX12_beat 35 = .ok (.iadd, 1) := by decide +kernel
theorem dX12_beat_36 : decode cX12_beat 36 = .ok (.iaload, 1) := by decide +kernel
theorem dX12_beat_37 : decode cX12_beat 37 = .ok (.goto 4, 3) := by decide +kernel
theorem dX12_beat_40 : decode cX12_beat 40 = .ok (.iconst (-1), 1) := by decide +kernel
theorem dX12_beat_41 : decode cX12_beat 41 = .ok (.ireturn, 1) := by decide +kernel
set_option maxRecDepth 20000 in
theorem ggX12_starts_X12_tries : GoodIn wsX12_starts wsX12_tries := goodIn_r _ [7, 8, 1, 9, 10, 11, 12, 13, 14, 15, 16, 17, 18, 19, 20, 21, 22, 23, 24, 25, 26, 27, 28, 29, 30, 31, 32, 33, 34] (by decide +kernel) (by decide +kernel)
set_option maxRecDepth 20000 in
theorem gX12_starts_X12_tries : GoodIn wsX12_starts (wsV RX12 130 RX12 yX12_tries wsX12_tries) := goodIn_app (goodIn_of _ (by decide +kernel)) ggX12_starts_X12_tries
theorem dX12_starts_0 : decode cX12_starts 0 = .ok (.aload_n 0, 1) := by decide +kernel
theorem dX12_starts_1 : decode cX12_starts 1 = .ok (.iconst 0, 1) := by decide +kernel
theorem dX12_starts_2 : decode cX12_starts 2 = .ok (.putfield 127, 3) := by decide +kernel
theorem dX12_starts_5 : decode cX12_starts 5 = .ok (.iconst 0, 1) := by decide +kernel
theorem dX12_starts_6 : decode cX12_starts 6 = .ok (.istore_n 1, 1) := by decide +kernel
theorem dX12_starts_7 : decode cX12_starts 7 = .ok (.iload_n 1, 1) := by decide +kernel
theorem dX12_starts_8 : decode cX12_starts 8 = .ok (.aload_n 0, 1) := by decide +kernel
theorem dX12_starts_9 : decode cX12_starts 9 = .ok (.getfield 19, 3) := by decide +kernel
theorem dX12_starts_12 : decode cX12_starts 12 = .ok (.iconst 0, 1) := by decide +kernel
theorem dX12_starts_13 : decode cX12_starts 13 = .ok (.iaload, 1) := by decide +kernel
theorem dX12_starts_14 : decode cX12_starts 14 = .ok (.if_icmp .ge 43, 3) := by decide +kernel
theorem dX12_starts_17 : decode cX12_starts 17 = .ok (.aload_n 0, 1) := by decide +kernel
theorem dX12_starts_18 : decode cX12_starts 18 = .ok (.aload_n 0, 1) := by decide +kernel
theorem dX12_starts_19 : decode cX12_starts 19 = .ok (.getfield 19, 3) := by decide +kernel
theorem dX12_starts_22 : decode cX12_starts 22 = .ok (.iconst 2, 1) := by decide +kernel
theorem dX12_starts_23 : decode cX12_starts 23 = .ok (.iconst 3, 1) := by decide +kernel
theorem dX12_starts_24 : decode cX12_starts 24 = .ok (.iload_n 1, 1) := by decide +kernel
theorem dX12_starts_25 : decode cX12_starts 25 = .ok (.imul, 1) := by decide +kernel
theorem dX12_starts_26 : decode cX12_starts 26 = .ok (.iadd, 1) := by decide +kernel
theorem dX12_starts_27 : decode cX12_starts 27 = .ok (.iaload, 1) := by decide +kernel
theorem dX12_starts_28 : decode cX12_starts 28 = .ok (.aload_n 0, 1) := by decide +kernel
theorem dX12_starts_29 : decode cX12_starts 29 = .ok (.getfield 19, 3) := by decide +kernel
theorem dX12_starts_32 : decode cX12_starts 32 = .ok (.iconst 3, 1) := by decide +kernel
theorem dX12_starts_33 : decode cX12_starts 33 = .ok (.iconst 3, 1) := by decide +kernel
theorem dX12_starts_34 : decode cX12_starts 34 = .ok (.iload_n 1, 1) := by decide +kernel
theorem dX12_starts_35 : decode cX12_starts 35 = .ok (.imul, 1) := by decide +kernel
theorem dX12_starts_36 : decode cX12_starts 36 = .ok (.iadd, 1) := by decide +kernel
theorem dX12_starts_37 : decode cX12_starts 37 = .ok (.iaload, 1) := by decide +kernel
theorem dX12_starts_38 : decode cX12_starts 38 = .ok (.aload_n 0, 1) := by decide +kernel
theorem dX12_starts_39 : decode cX12_starts 39 = .ok (.getfield 19, 3) := by decide +kernel
theorem dX12_starts_42 : decode cX12_starts 42 = .ok (.iconst 4, 1) := by decide +kernel
theorem dX12_starts_43 : decode cX12_starts 43 = .ok (.iconst 3, 1) := by decide +kernel
theorem dX12_starts_44 : decode cX12_starts 44 = .ok (.iload_n 1, 1) := by decide +kernel
theorem dX12_starts_45 : decode cX12_starts 45 = .ok (.imul, 1) := by decide +kernel
theorem dX12_starts_46 : decode cX12_starts 46 = .ok (.iadd, 1) := by decide +kernel
theorem dX12_starts_47 : decode cX12_starts 47 = .ok (.iaload, 1) := by decide +kernel
theorem dX12_starts_48 : decode cX12_starts 48 = .ok (.invokevirtual 130, 3) := by decide +kernel
theorem dX12_starts_51 : decode cX12_starts 51 = .ok (.iinc 1 1, 3) := by decide +kernel
theorem dX12_starts_54 : decode cX12_starts 54 = .ok (.goto (-47), 3) := by decide +kernel
theorem dX12_starts_57 : decode cX12_starts 57 = .ok (.return_, 1) := by decide +kernel
theorem dX12_tries_0 : decode cX12_tries 0 = .ok (.aload_n 0, 1) := by decide +kernel
theorem dX12_tries_1 : decode cX12_tries 1 = .ok (.getfield 37, 3) := by decide +kernel
theorem dX12_tries_4 : decode cX12_tries 4 = .ok (.aload_n 0, 1) := by decide +kernel
theorem dX12_tries_5 : decode cX12_tries 5 = .ok (.getfield 127, 3) := by decide +kernel
theorem dX12_tries_8 : decode cX12_tries 8 = .ok (.iload_n 1, 1) := by decide +kernel
theorem dX12_tries_9 : decode cX12_tries 9 = .ok (.iastore, 1) := by decide +kernel
theorem dX12_tries_10 : decode cX12_tries 10 = .ok (.aload_n 0, 1) := by decide +kernel
theorem dX12_tries_11 : decode cX12_tries 11 = .ok (.getfield 40, 3) := by decide +kernel
theorem dX12_tries_14 : decode cX12_tries 14 = .ok (.aload_n 0, 1) := by decide +kernel
theorem dX12_tries_15 : decode cX12_tries 15 = .ok (.getfield 127, 3) := by decide +kernel
theorem dX12_tries_18 : decode cX12_tries 18 = .ok (.iload_n 2, 1) := by decide +kernel
theorem dX12_tries_19 : decode cX12_tries 19 = .ok (.iastore, 1) := by decide +kernel
theorem dX12_tries_20 : decode cX12_tries 20 = .ok (.aload_n 0, 1) := by decide +kernel
theorem dX12_tries_21 : decode cX12_tries 21 = .ok (.getfield 43, 3) := by decide +kernel
theorem dX12_tries_24 : decode cX12_tries 24 = .ok (.aload_n 0, 1) := by decide +kernel
theorem dX12_tries_25 : decode cX12_tries 25 = .ok (.getfield 127, 3) := by decide +kernel
theorem dX12_tries_28 : decode cX12_tries 28 = .ok (.iload_n 3, 1) := by decide +kernel
theorem dX12_tries_29 : decode cX12_tries 29 = .ok (.iastore, 1) := by decide +kernel
theorem dX12_tries_30 : decode cX12_tries 30 = .ok (.aload_n 0, 1) := by decide +kernel
theorem dX12_tries_31 : decode cX12_tries 31 = .ok (.dup, 1) := by decide +kernel
theorem dX12_tries_32 : decode cX12_tries 32 = .ok (.getfield 127, 3) := by decide +kernel
theorem dX12_tries_35 : decode cX12_tries 35 = .ok (.iconst 1, 1) := by decide +kernel
theorem dX12_tries_36 : decode cX12_tries 36 = .ok (.iadd, 1) := by decide +kernel
theorem dX12_tries_37 : decode cX12_tries 37 = .ok (.putfield 127, 3) := by decide +kernel
theorem dX12_tries_40 : decode cX12_tries 40 = .ok (.return_, 1) := by decide +kernel
theorem dX12_next_0 : decode cX12_next 0 = .ok (.bipush (-4), 2) := by decide +kernel
theorem dX12_next_2 : decode cX12_next 2 = .ok (.istore_n 2, 1) := by decide +kernel
theorem dX12_next_3 : decode cX12_next 3 = .ok (.iconst 0, 1) := by decide +kernel
theorem dX12_next_4 : decode cX12_next 4 = .ok (.istore_n 3, 1) := by decide +kernel
theorem dX12_next_5 : decode cX12_next 5 = .ok (.iload_n 3, 1) := by decide +kernel
theorem dX12_next_6 : decode cX12_next 6 = .ok (.aload_n 0, 1) := by decide +kernel
theorem dX12_next_7 : decode cX12_next 7 = .ok (.getfield 127, 3) := by decide +kernel
theorem dX12_next_10 : decode cX12_next 10 = .ok (.if_icmp .ge 111, 3) := by decide +kernel
theorem dX12_next_13 : decode cX12_next 13 = .ok (.aload_n 0, 1) := by decide +kernel
theorem dX12_next_14 : decode cX12_next 14 = .ok (.getfield 49, 3) := by decide +kernel
theorem dX12_next_17 : decode cX12_next 17 = .ok (.iload_n 3, 1) := by decide +kernel
theorem dX12_next_18 : decode cX12_next 18 = .ok (.baload, 1) := by decide +kernel
theorem dX12_next_19 : decode cX12_next 19 = .ok (.ifCond .ne 96, 3) := by decide +kernel
theorem dX12_next_22 : decode cX12_next 22 = .ok (.aload_n 0, 1) := by decide +kernel
theorem dX12_next_23 : decode cX12_next 23 = .ok (.getfield 46, 3) := by decide +kernel
theorem dX12_next_26 : decode cX12_next 26 = .ok (.iload_n 3, 1) := by decide +kernel
theorem dX12_next_27 : decode cX12_next 27 = .ok (.iaload, 1) := by decide +kernel
theorem dX12_next_28 : decode cX12_next 28 = .ok (.iload_n 1, 1) := by decide +kernel
theorem dX12_next_29 : decode cX12_next 29 = .ok (.if_icmp .gt 86, 3) := by decide +kernel
theorem dX12_next_32 : decode cX12_next 32 = .ok (.iload_n 2, 1) := by decide +kernel
theorem dX12_next_33 : decode cX12_next 33 = .ok (.ifCond .ge 7, 3) := by decide +kernel
theorem dX12_next_36 : decode cX12_next 36 = .ok (.iconst 0, 1) := by decide +kernel
theorem dX12_next_37 : decode cX12_next 37 = .ok (.goto 4, 3) := by decide +kernel
theorem dX12_next_40 : decode cX12_next 40 = .ok (.iload_n 2, 1) := by decide +kernel
theorem dX12_next_41 : decode cX12_next 41 = .ok (.istore 4, 2) := by decide +kernel
theorem dX12_next_43 : decode cX12_next 43 = .ok (.aload_n 0, 1) := by decide +kernel
theorem dX12_next_44 : decode cX12_next 44 = .ok (.getfield 46, 3) := by decide +kernel
theorem dX12_next_47 : decode cX12_next 47 = .ok (.iload_n 3, 1) := by decide +kernel
theorem dX12_next_48 : decode cX12_next 48 = .ok (.iaload, 1) := by decide +kernel
theorem dX12_next_49 : decode cX12_next 49 = .ok (.aload_n 0, 1) := by decide +kernel
theorem dX12_next_50 : decode cX12_next 50 = .ok (.getfield 46, 3) := by decide +kernel
theorem dX12_next_53 : decode cX12_next 53 = .ok (.iload 4, 2) := by decide +kernel
theorem dX12_next_55 : decode cX12_next 55 = .ok (.iaload, 1) := by decide +kernel
theorem dX12_next_56 : decode cX12_next 56 = .ok (.if_icmp .lt 35, 3) := by decide +kernel
theorem dX12_next_59 : decode cX12_next 59 = .ok (.aload_n 0, 1) := by decide +kernel
theorem dX12_next_60 : decode cX12_next 60 = .ok (.getfield 46, 3) := by decide +kernel
theorem dX12_next_63 : decode cX12_next 63 = .ok (.iload_n 3, 1) := by decide +kernel
theorem dX12_next_64 : decode cX12_next 64 = .ok (.iaload, 1) := by decide +kernel
theorem dX12_next_65 : decode cX12_next 65 = .ok (.aload_n 0, 1) := by decide +kernel
theorem dX12_next_66 : decode cX12_next 66 = .ok (.getfield 46, 3) := by decide +kernel
theorem dX12_next_69 : decode cX12_next 69 = .ok (.iload 4, 2) := by decide +kernel
theorem dX12_next_71 : decode cX12_next 71 = .ok (.iaload, 1) := by decide +kernel
theorem dX12_next_72 : decode cX12_next 72 = .ok (.if_icmp .ne 23, 3) := by decide +kernel
theorem dX12_next_75 : decode cX12_next 75 = .ok (.aload_n 0, 1) := by decide +kernel
theorem dX12_next_76 : decode cX12_next 76 = .ok (.getfield 43, 3) := by decide +kernel
theorem dX12_next_79 : decode cX12_next 79 = .ok (.iload_n 3, 1) := by decide +kernel
theorem dX12_next_80 : decode cX12_next 80 = .ok (.iaload, 1) := by decide +kernel
theorem dX12_next_81 : decode cX12_next 81 = .ok (.aload_n 0, 1) := by decide +kernel
theorem dX12_next_82 : decode cX12_next 82 = .ok (.getfield 43, 3) := by decide +kernel
theorem dX12_next_85 : decode cX12_next 85 = .ok (.iload 4, 2) := by decide +kernel
theorem dX12_next_87 : decode cX12_next 87 = .ok (.iaload, 1) := by decide +kernel
theorem dX12_next_88 : decode cX12_next 88 = .ok (.if_icmp .ge 7, 3) := by decide +kernel
theorem dX12_next_91 : decode cX12_next 91 = .ok (.iconst 1, 1) := by decide +kernel
theorem dX12_next_92 : decode cX12_next 92 = .ok (.goto 4, 3) := by decide +kernel
theorem dX12_next_95 : decode cX12_next 95 = .ok (.iconst 0, 1) := by decide +kernel
theorem dX12_next_96 : decode cX12_next 96 = .ok (.istore 5, 2) := by decide +kernel
theorem dX12_next_98 : decode cX12_next 98 = .ok (.iload_n 2, 1) := by decide +kernel
theorem dX12_next_99 : decode cX12_next 99 = .ok (.bipush (-4), 2) := by decide +kernel
theorem dX12_next_101 : decode cX12_next 101 = .ok (.if_icmp .eq 8, 3) := by decide +kernel
theorem dX12_next_104 : decode cX12_next 104 = .ok (.iload 5, 2) := by decide +kernel
theorem dX12_next_106 : decode cX12_next 106 = .ok (.ifCond .eq 7, 3) := by decide +kernel
theorem dX12_next_109 : decode cX12_next 109 = .ok (.iload_n 3, 1) := by decide +kernel
theorem dX12_next_110 : decode cX12_next 110 = .ok (.goto 4, 3) := by decide +kernel
theorem dX12_next_113 : decode cX12_next 113 = .ok (.iload_n 2, 1) := by decide +kernel
theorem dX12_next_114 : decode cX12_next 114 = .ok (.istore_n 2, 1) := by decide +kernel
theorem dX12_next_115 : decode cX12_next 115 = .ok (.iinc 3 1, 3) := by decide +kernel
theorem dX12_next_118 : decode cX12_next 118 = .ok (.goto (-113), 3) := by decide +kernel
theorem dX12_next_121 : decode cX12_next 121 = .ok (.iload_n 2, 1) := by decide +kernel
theorem dX12_next_122 : decode cX12_next 122 = .ok (.ireturn, 1) := by decide +kernel
theorem dX12_hit_0 : decode cX12_hit 0 = .ok (.bipush (-4), 2) := by decide +kernel
theorem dX12_hit_2 : decode cX12_hit 2 = .ok (.istore_n 2, 1) := by decide +kernel
theorem dX12_hit_3 : decode cX12_hit 3 = .ok (.iconst 0, 1) := by decide +kernel
theorem dX12_hit_4 : decode cX12_hit 4 = .ok (.istore_n 3, 1) := by decide +kernel
theorem dX12_hit_5 : decode cX12_hit 5 = .ok (.iconst 0, 1) := by decide +kernel
theorem dX12_hit_6 : decode cX12_hit 6 = .ok (.istore 4, 2) := by decide +kernel
theorem dX12_hit_8 : decode cX12_hit 8 = .ok (.iload 4, 2) := by decide +kernel
theorem dX12_hit_10 : decode cX12_hit 10 = .ok (.aload_n 0, 1) := by decide +kernel
theorem dX12_hit_11 : decode cX12_hit 11 = .ok (.getfield 134, 3) := by decide +kernel
theorem dX12_hit_14 : decode cX12_hit 14 = .ok (.if_icmp .ge 90, 3) := by decide +kernel
theorem dX12_hit_17 : decode cX12_hit 17 = .ok (.aload_n 0, 1) := by decide +kernel
theorem dX12_hit_18 : decode cX12_hit 18 = .ok (.getfield 40, 3) := by decide +kernel
theorem dX12_hit_21 : decode cX12_hit 21 = .ok (.aload_n 0, 1) := by decide +kernel
theorem dX12_hit_22 : decode cX12_hit 22 = .ok (.getfield 56, 3) := by decide +kernel
theorem dX12_hit_25 : decode cX12_hit 25 = .ok (.iload 4, 2) := by decide +kernel
theorem dX12_hit_27 : decode cX12_hit 27 = .ok (.iaload, 1) := by decide +kernel
theorem dX12_hit_28 : decode cX12_hit 28 = .ok (.iaload, 1) := by decide +kernel
theorem dX12_hit_29 : decode cX12_hit 29 = .ok (.aload_n 0, 1) := by decide +kernel
theorem dX12_hit_30 : decode cX12_hit 30 = .ok (.getfield 40, 3) := by decide +kernel
theorem dX12_hit_33 : decode cX12_hit 33 = .ok (.iload_n 1, 1) := by decide +kernel
theorem dX12_hit_34 : decode cX12_hit 34 = .ok (.iaload, 1) := by decide +kernel
theorem dX12_hit_35 : decode cX12_hit 35 = .ok (.if_icmp .ne 35, 3) := by decide +kernel
theorem dX12_hit_38 : decode cX12_hit 38 = .ok (.aload_n 0, 1) := by decide +kernel
theorem dX12_hit_39 : decode cX12_hit 39 = .ok (.getfield 46, 3) := by decide +kernel
theorem dX12_hit_42 : decode cX12_hit 42 = .ok (.iload_n 1, 1) := by decide +kernel
theorem dX12_hit_43 : decode cX12_hit 43 = .ok (.iaload, 1) := by decide +kernel
theorem dX12_hit_44 : decode cX12_hit 44 = .ok (.aload_n 0, 1) := by decide +kernel
theorem dX12_hit_45 : decode cX12_hit 45 = .ok (.getfield 46, 3) := by decide +kernel
theorem dX12_hit_48 : decode cX12_hit 48 = .ok (.aload_n 0, 1) := by decide +kernel
theorem dX12_hit_49 : decode cX12_hit 49 = .ok (.getfield 56, 3) := by decide +kernel
theorem dX12_hit_52 : decode cX12_hit 52 = .ok (.iload 4, 2) := by decide +kernel
theorem dX12_hit_54 : decode cX12_hit 54 = .ok (.iaload, 1) := by decide +kernel
theorem dX12_hit_55 : decode cX12_hit 55 = .ok (.iaload, 1) := by decide +kernel
theorem dX12_hit_56 : decode cX12_hit 56 = .ok (.isub, 1) := by decide +kernel
theorem dX12_hit_57 : decode cX12_hit 57 = .ok (.aload_n 0, 1) := by decide +kernel
theorem dX12_hit_58 : decode cX12_hit 58 = .ok (.getfield 13, 3) := by decide +kernel
theorem dX12_hit_61 : decode cX12_hit 61 = .ok (.iconst 1, 1) := by decide +kernel
theorem dX12_hit_62 : decode cX12_hit 62 = .ok (.iaload, 1) := by decide +kernel
theorem dX12_hit_63 : decode cX12_hit 63 = .ok (.if_icmp .ge 7, 3) := by decide +kernel
theorem dX12_hit_66 : decode cX12_hit 66 = .ok (.iconst 1, 1) := by decide +kernel
theorem dX12_hit_67 : decode cX12_hit 67 = .ok (.goto 4, 3) := by decide +kernel
theorem dX12_hit_70 : decode cX12_hit 70 = .ok (.iconst 0, 1) := by decide +kernel
theorem dX12_hit_71 : decode cX12_hit 71 = .ok (.istore 5, 2) := by decide +kernel
theorem dX12_hit_73 : decode cX12_hit 73 = .ok (.iload 5, 2) := by decide +kernel
theorem dX12_hit_75 : decode cX12_hit 75 = .ok (.ifCond .eq 8, 3) := by decide +kernel
theorem dX12_hit_78 : decode cX12_hit 78 = .ok (.iload 4, 2) := by decide +kernel
theorem dX12_hit_80 : decode cX12_hit 80 = .ok (.goto 4, 3) := by decide +kernel
theorem dX12_hit_83 : decode cX12_hit 83 = .ok (.iload_n 2, 1) := by decide +kernel
theorem dX12_hit_84 : decode cX12_hit 84 = .ok (.istore_n 2, 1) := by decide +kernel
theorem dX12_hit_85 : decode cX12_hit 85 = .ok (.iload_n 3, 1) := by decide +kernel
theorem dX12_hit_86 : decode cX12_hit 86 = .ok (.iload 5, 2) := by decide +kernel
theorem dX12_hit_88 : decode cX12_hit 88 = .ok (.ifCond .eq 7, 3) := by decide +kernel
theorem dX12_hit_91 : decode cX12_hit 91 = .ok (.iconst 1, 1) := by decide +kernel
theorem dX12_hit_92 : decode cX12_hit 92 = .ok (.goto 4, 3) := by decide +kernel
theorem dX12_hit_95 : decode cX12_hit 95 = .ok (.iconst 0, 1) := by decide +kernel
theorem dX12_hit_96 : decode cX12_hit 96 = .ok (.iadd, 1) := by decide +kernel
theorem dX12_hit_97 : decode cX12_hit 97 = .ok (.istore_n 3, 1) := by decide +kernel
theorem dX12_hit_98 : decode cX12_hit 98 = .ok (.iinc 4 1, 3) := by decide +kernel
theorem dX12_hit_101 : decode cX12_hit 101 = .ok (.goto (-93), 3) := by decide +kernel
theorem dX12_hit_104 : decode cX12_hit 104 = .ok (.aload_n 0, 1) := by decide +kernel
theorem dX12_hit_105 : decode cX12_hit 105 = .ok (.getfield 13, 3) := by decide +kernel
theorem dX12_hit_108 : decode cX12_hit 108 = .ok (.iconst 2, 1) := by decide +kernel
theorem dX12_hit_109 : decode cX12_hit 109 = .ok (.iaload, 1) := by decide +kernel
theorem dX12_hit_110 : decode cX12_hit 110 = .ok (.iconst 2, 1) := by decide +kernel
theorem dX12_hit_111 : decode cX12_hit 111 = .ok (.if_icmp .ne 13, 3) := by decide +kernel
theorem dX12_hit_114 : decode cX12_hit 114 = .ok (.iload_n 3, 1) := by decide +kernel
theorem dX12_hit_115 : decode cX12_hit 115 = .ok (.iconst 2, 1) := by decide +kernel
theorem dX12_hit_116 : decode cX12_hit 116 = .ok (.if_icmp .ge 8, 3) := by decide +kernel
theorem dX12_hit_119 : decode cX12_hit 119 = .ok (.bipush (-4), 2) := by decide +kernel
theorem dX12_hit_121 : decode cX12_hit 121 = .ok (.goto 4, 3) := by decide +kernel
theorem dX12_hit_124 : decode cX12_hit 124 = .ok (.iload_n 2, 1) := by decide +kernel
theorem dX12_hit_125 : decode cX12_hit 125 = .ok (.ireturn, 1) := by decide +kernel
set_option maxRecDepth 20000 in
theorem ggX12_hears_X12_hit : GoodIn wsX12_hears wsX12_hit := goodIn_r _ [10, 3, 11, 2, 12, 4, 13, 14, 15, 16, 17, 18, 19, 20, 21, 22, 23, 24, 25, 26, 27, 28, 29, 30, 31, 32, 33, 34, 35, 36] (by decide +kernel) (by decide +kernel)
set_option maxRecDepth 20000 in
theorem gX12_hears_X12_hit : GoodIn wsX12_hears (wsV RX12 137 RX12 yX12_hit wsX12_hit) := goodIn_app (goodIn_of _ (by decide +kernel)) ggX12_hears_X12_hit
theorem dX12_hears_0 : decode cX12_hears 0 = .ok (.aload_n 0, 1) := by decide +kernel
theorem dX12_hears_1 : decode cX12_hears 1 = .ok (.getfield 49, 3) := by decide +kernel
theorem dX12_hears_4 : decode cX12_hears 4 = .ok (.iload_n 1, 1) := by decide +kernel
theorem dX12_hears_5 : decode cX12_hears 5 = .ok (.iconst 1, 1) := by decide +kernel
theorem dX12_hears_6 : decode cX12_hears 6 = .ok (.bastore, 1) := by decide +kernel
theorem dX12_hears_7 : decode cX12_hears 7 = .ok (.aload_n 0, 1) := by decide +kernel
theorem dX12_hears_8 : decode cX12_hears 8 = .ok (.iload_n 1, 1) := by decide +kernel
theorem dX12_hears_9 : decode cX12_hears 9 = .ok (.invokevirtual 137, 3) := by decide +kernel
theorem dX12_hears_12 : decode cX12_hears 12 = .ok (.istore_n 2, 1) := by decide +kernel
theorem dX12_hears_13 : decode cX12_hears 13 = .ok (.iload_n 2, 1) := by decide +kernel
theorem dX12_hears_14 : decode cX12_hears 14 = .ok (.bipush (-4), 2) := by decide +kernel
theorem dX12_hears_16 : decode cX12_hears 16 = .ok (.if_icmp .ne 24, 3) := by decide +kernel
theorem dX12_hears_19 : decode cX12_hears 19 = .ok (.aload_n 0, 1) := by decide +kernel
theorem dX12_hears_20 : decode cX12_hears 20 = .ok (.getfield 56, 3) := by decide +kernel
theorem dX12_hears_23 : decode cX12_hears 23 = .ok (.aload_n 0, 1) := by decide +kernel
theorem dX12_hears_24 : decode cX12_hears 24 = .ok (.getfield 134, 3) := by decide +kernel
theorem dX12_hears_27 : decode cX12_hears 27 = .ok (.iload_n 1, 1) := by decide +kernel
theorem dX12_hears_28 : decode cX12_hears 28 = .ok (.iastore, 1) := by decide +kernel
theorem dX12_hears_29 : decode cX12_hears 29 = .ok (.aload_n 0, 1) := by decide +kernel
theorem dX12_hears_30 : decode cX12_hears 30 = .ok (.dup, 1) := by decide +kernel
theorem dX12_hears_31 : decode cX12_hears 31 = .ok (.getfield 134, 3) := by decide +kernel
theorem dX12_hears_34 : decode cX12_hears 34 = .ok (.iconst 1, 1) := by decide +kernel
theorem dX12_hears_35 : decode cX12_hears 35 = .ok (.iadd, 1) := by decide +kernel
theorem dX12_hears_36 : decode cX12_hears 36 = .ok (.putfield 134, 3) := by decide +kernel
theorem dX12_hears_39 : decode cX12_hears 39 = .ok (.return_, 1) := by decide +kernel
theorem dX12_hears_40 : decode cX12_hears 40 = .ok (.aload_n 0, 1) := by decide +kernel
theorem dX12_hears_41 : decode cX12_hears 41 = .ok (.getfield 13, 3) := by decide +kernel
theorem dX12_hears_44 : decode cX12_hears 44 = .ok (.iconst 2, 1) := by decide +kernel
theorem dX12_hears_45 : decode cX12_hears 45 = .ok (.iaload, 1) := by decide +kernel
theorem dX12_hears_46 : decode cX12_hears 46 = .ok (.iconst 1, 1) := by decide +kernel
theorem dX12_hears_47 : decode cX12_hears 47 = .ok (.if_icmp .ne 10, 3) := by decide +kernel
theorem dX12_hears_50 : decode cX12_hears 50 = .ok (.aload_n 0, 1) := by decide +kernel
theorem dX12_hears_51 : decode cX12_hears 51 = .ok (.getfield 134, 3) := by decide +kernel
theorem dX12_hears_54 : decode cX12_hears 54 = .ok (.goto 6, 3) := by decide +kernel
theorem dX12_hears_57 : decode cX12_hears 57 = .ok (.iload_n 2, 1) := by decide +kernel
theorem dX12_hears_58 : decode cX12_hears 58 = .ok (.iconst 1, 1) := by decide +kernel
theorem dX12_hears_59 : decode cX12_hears 59 = .ok (.iadd, 1) := by decide +kernel
theorem dX12_hears_60 : decode cX12_hears 60 = .ok (.istore_n 3, 1) := by decide +kernel
theorem dX12_hears_61 : decode cX12_hears 61 = .ok (.iload_n 2, 1) := by decide +kernel
theorem dX12_hears_62 : decode cX12_hears 62 = .ok (.istore 4, 2) := by decide +kernel
theorem dX12_hears_64 : decode cX12_hears 64 = .ok (.iload 4, 2) := by decide +kernel
theorem dX12_hears_66 : decode cX12_hears 66 = .ok (.iload_n 3, 1) := by decide +kernel
theorem dX12_hears_67 : decode cX12_hears 67 = .ok (.if_icmp .ge 22, 3) := by decide +kernel
theorem dX12_hears_70 : decode cX12_hears 70 = .ok (.aload_n 0, 1) := by decide +kernel
theorem dX12_hears_71 : decode cX12_hears 71 = .ok (.getfield 53, 3) := by decide +kernel
theorem dX12_hears_74 : decode cX12_hears 74 = .ok (.aload_n 0, 1) := by decide +kernel
theorem dX12_hears_75 : decode cX12_hears 75 = .ok (.getfield 56, 3) := by decide +kernel
theorem dX12_hears_78 : decode cX12_hears 78 = .ok (.iload 4, 2) := by decide +kernel
theorem dX12_hears_80 : decode cX12_hears 80 = .ok (.iaload, 1) := by decide +kernel
theorem dX12_hears_81 : decode cX12_hears 81 = .ok (.iload_n 1, 1) := by decide +kernel
theorem dX12_hears_82 : decode cX12_hears 82 = .ok (.iastore, 1) := by decide +kernel
theorem dX12_hears_83 : decode cX12_hears 83 = .ok (.iinc 4 1, 3) := by decide +kernel
theorem dX12_hears_86 : decode cX12_hears 86 = .ok (.goto (-22), 3) := by decide +kernel
theorem dX12_hears_89 : decode cX12_hears 89 = .ok (.iload_n 3, 1) := by decide +kernel
theorem dX12_hears_90 : decode cX12_hears 90 = .ok (.istore 4, 2) := by decide +kernel
theorem dX12_hears_92 : decode cX12_hears 92 = .ok (.iload 4, 2) := by decide +kernel
theorem dX12_hears_94 : decode cX12_hears 94 = .ok (.aload_n 0, 1) := by decide +kernel
theorem dX12_hears_95 : decode cX12_hears 95 = .ok (.getfield 134, 3) := by decide +kernel
theorem dX12_hears_98 : decode cX12_hears 98 = .ok (.if_icmp .ge 27, 3) := by decide +kernel
theorem dX12_hears_101 : decode cX12_hears 101 = .ok (.aload_n 0, 1) := by decide +kernel
theorem dX12_hears_102 : decode cX12_hears 102 = .ok (.getfield 56, 3) := by decide +kernel
theorem dX12_hears_105 : decode cX12_hears 105 = .ok (.iload 4, 2) := by decide +kernel
theorem dX12_hears_107 : decode cX12_hears 107 = .ok (.iload_n 3, 1) := by decide +kernel
theorem dX12_hears_108 : decode cX12_hears 108 = .ok (.isub, 1) := by decide +kernel
theorem dX12_hears_109 : decode cX12_hears 109 = .ok (.iload_n 2, 1) := by decide +kernel
theorem dX12_hears_110 : decode cX12_hears 110 = .ok (.iadd, 1) := by decide +kernel
theorem dX12_hears_111 : decode cX12_hears 111 = .ok (.aload_n 0, 1) := by decide +kernel
theorem dX12_hears_112 : decode cX12_hears 112 = .ok (.getfield 56, 3) := by decide +kernel
theorem dX12_hears_115 : decode cX12_hears 115 = .ok (.iload 4, 2) := by decide +kernel
theorem dX12_hears_117 : decode cX12_hears 117 = .ok (.iaload, 1) := by decide +kernel
theorem dX12_hears_118 : decode cX12_hears 118 = .ok (.iastore, 1) := by decide +kernel
theorem dX12_hears_119 : decode cX12_hears 119 = .ok (.iinc 4 1, 3) := by decide +kernel
theorem dX12_hears_122 : decode cX12_hears 122 = .ok (.goto (-30), 3) := by decide +kernel
theorem dX12_hears_125 : decode cX12_hears 125 = .ok (.aload_n 0, 1) := by decide +kernel
theorem dX12_hears_126 : decode cX12_hears 126 = .ok (.dup, 1) := by decide +kernel
theorem dX12_hears_127 : decode cX12_hears 127 = .ok (.getfield 134, 3) := by decide +kernel
theorem dX12_hears_130 : decode cX12_hears 130 = .ok (.iload_n 3, 1) := by decide +kernel
theorem dX12_hears_131 : decode cX12_hears 131 = .ok (.iload_n 2, 1) := by decide +kernel
theorem dX12_hears_132 : decode cX12_hears 132 = .ok (.isub, 1) := by decide +kernel
theorem dX12_hears_133 : decode cX12_hears 133 = .ok (.isub, 1) := by decide +kernel
theorem dX12_hears_134 : decode cX12_hears 134 = .ok (.putfield 134, 3) := by decide +kernel
theorem dX12_hears_137 : decode cX12_hears 137 = .ok (.return_, 1) := by decide +kernel
set_option maxRecDepth 20000 in
theorem ggX12_plays_X12_next : GoodIn wsX12_plays wsX12_next := goodIn_r _ [13, 2, 3, 5, 6, 24, 25, 26, 27, 28, 29, 30, 31, 32, 33, 34, 35, 36, 37, 38, 39, 40, 41, 42, 43, 44, 45, 46, 47] (by decide +kernel) (by decide +kernel)
set_option maxRecDepth 20000 in
theorem gX12_plays_X12_next : GoodIn wsX12_plays (wsV RX12 140 RX12 yX12_next wsX12_next) := goodIn_app (goodIn_of _ (by decide +kernel)) ggX12_plays_X12_next
set_option maxRecDepth 20000 in
theorem ggX12_plays_X12_hears : GoodIn wsX12_plays wsX12_hears := goodIn_r _ [17, 3, 18, 1, 7, 4, 19, 20, 21, 12, 22, 23, 5, 24, 25, 26, 27, 28, 29, 30, 31, 32, 33, 34, 35, 36, 37, 38, 39, 40, 41, 42, 43, 44, 45, 46, 47] (by decide +kernel) (by decide +kernel)
set_option maxRecDepth 20000 in
theorem gX12_plays_X12_hears : GoodIn wsX12_plays (wsV RX12 143 RX12 yX12_hears wsX12_hears) := goodIn_app (goodIn_of _ (by decide +kernel)) ggX12_plays_X12_hears
theorem dX12_plays_0 : decode cX12_plays 0 = .ok (.aload_n 0, 1) := by decide +kernel
theorem dX12_plays_1 : decode cX12_plays 1 = .ok (.iconst 0, 1) := by decide +kernel
theorem dX12_plays_2 : decode cX12_plays 2 = .ok (.putfield 134, 3) := by decide +kernel
theorem dX12_plays_5 : decode cX12_plays 5 = .ok (.iconst 0, 1) := by decide +kernel
theorem dX12_plays_6 : decode cX12_plays 6 = .ok (.istore_n 3, 1) := by decide +kernel
theorem dX12_plays_7 : decode cX12_plays 7 = .ok (.iload_n 3, 1) := by decide +kernel
theorem dX12_plays_8 : decode cX12_plays 8 = .ok (.aload_n 0, 1) := by decide +kernel
theorem dX12_plays_9 : decode cX12_plays 9 = .ok (.getfield 127, 3) := by decide +kernel
theorem dX12_plays_12 : decode cX12_plays 12 = .ok (.if_icmp .ge 54, 3) := by decide +kernel
theorem dX12_plays_15 : decode cX12_plays 15 = .ok (.aload_n 0, 1) := by decide +kernel
theorem dX12_plays_16 : decode cX12_plays 16 = .ok (.getfield 49, 3) := by decide +kernel
theorem dX12_plays_19 : decode cX12_plays 19 = .ok (.iload_n 3, 1) := by decide +kernel
theorem dX12_plays_20 : decode cX12_plays 20 = .ok (.iconst 0, 1) := by decide +kernel
theorem dX12_plays_21 : decode cX12_plays 21 = .ok (.bastore, 1) := by decide +kernel
theorem dX12_plays_22 : decode cX12_plays 22 = .ok (.aload_n 0, 1) := by decide +kernel
theorem dX12_plays_23 : decode cX12_plays 23 = .ok (.getfield 53, 3) := by decide +kernel
theorem dX12_plays_26 : decode cX12_plays 26 = .ok (.iload_n 3, 1) := by decide +kernel
theorem dX12_plays_27 : decode cX12_plays 27 = .ok (.bipush (-4), 2) := by decide +kernel
theorem dX12_plays_29 : decode cX12_plays 29 = .ok (.iastore, 1) := by decide +kernel
theorem dX12_plays_30 : decode cX12_plays 30 = .ok (.aload_n 0, 1) := by decide +kernel
theorem dX12_plays_31 : decode cX12_plays 31 = .ok (.getfield 46, 3) := by decide +kernel
theorem dX12_plays_34 : decode cX12_plays 34 = .ok (.iload_n 3, 1) := by decide +kernel
theorem dX12_plays_35 : decode cX12_plays 35 = .ok (.aload_n 0, 1) := by decide +kernel
theorem dX12_plays_36 : decode cX12_plays 36 = .ok (.getfield 43, 3) := by decide +kernel
theorem dX12_plays_39 : decode cX12_plays 39 = .ok (.iload_n 3, 1) := by decide +kernel
theorem dX12_plays_40 : decode cX12_plays 40 = .ok (.iaload, 1) := by decide +kernel
theorem dX12_plays_41 : decode cX12_plays 41 = .ok (.aload_n 0, 1) := by decide +kernel
theorem dX12_plays_42 : decode cX12_plays 42 = .ok (.getfield 13, 3) := by decide +kernel
theorem dX12_plays_45 : decode cX12_plays 45 = .ok (.iconst 5, 1) := by decide +kernel
theorem dX12_plays_46 : decode cX12_plays 46 = .ok (.iconst 5, 1) := by decide +kernel
theorem dX12_plays_47 : decode cX12_plays 47 = .ok (.aload_n 0, 1) := by decide +kernel
theorem dX12_plays_48 : decode cX12_plays 48 = .ok (.getfield 37, 3) := by decide +kernel
theorem dX12_plays_51 : decode cX12_plays 51 = .ok (.iload_n 3, 1) := by decide +kernel
theorem dX12_plays_52 : decode cX12_plays 52 = .ok (.iaload, 1) := by decide +kernel
theorem dX12_plays_53 : decode cX12_plays 53 = .ok (.imul, 1) := by decide +kernel
theorem dX12_plays_54 : decode cX12_plays 54 = .ok (.iadd, 1) := by decide +kernel
theorem dX12_plays_55 : decode cX12_plays 55 = .ok (.iload_n 1, 1) := by decide +kernel
theorem dX12_plays_56 : decode cX12_plays 56 = .ok (.iadd, 1) := by decide +kernel
theorem dX12_plays_57 : decode cX12_plays 57 = .ok (.iaload, 1) := by decide +kernel
theorem dX12_plays_58 : decode cX12_plays 58 = .ok (.iadd, 1) := by decide +kernel
theorem dX12_plays_59 : decode cX12_plays 59 = .ok (.iastore, 1) := by decide +kernel
theorem dX12_plays_60 : decode cX12_plays 60 = .ok (.iinc 3 1, 3) := by decide +kernel
theorem dX12_plays_63 : decode cX12_plays 63 = .ok (.goto (-56), 3) := by decide +kernel
theorem dX12_plays_66 : decode cX12_plays 66 = .ok (.aload_n 0, 1) := by decide +kernel
theorem dX12_plays_67 : decode cX12_plays 67 = .ok (.iload_n 2, 1) := by decide +kernel
theorem dX12_plays_68 : decode cX12_plays 68 = .ok (.invokevirtual 140, 3) := by decide +kernel
theorem dX12_plays_71 : decode cX12_plays 71 = .ok (.istore_n 3, 1) := by decide +kernel
theorem dX12_plays_72 : decode cX12_plays 72 = .ok (.iload_n 3, 1) := by decide +kernel
theorem dX12_plays_73 : decode cX12_plays 73 = .ok (.bipush (-4), 2) := by decide +kernel
theorem dX12_plays_75 : decode cX12_plays 75 = .ok (.if_icmp .eq 17, 3) := by decide +kernel
theorem dX12_plays_78 : decode cX12_plays 78 = .ok (.aload_n 0, 1) := by decide +kernel
theorem dX12_plays_79 : decode cX12_plays 79 = .ok (.iload_n 3, 1) := by decide +kernel
theorem dX12_plays_80 : decode cX12_plays 80 = .ok (.invokevirtual 143, 3) := by decide +kernel
theorem dX12_plays_83 : decode cX12_plays 83 = .ok (.aload_n 0, 1) := by decide +kernel
theorem dX12_plays_84 : decode cX12_plays 84 = .ok (.iload_n 2, 1) := by decide +kernel
theorem dX12_plays_85 : decode cX12_plays 85 = .ok (.invokevirtual 140, 3) := by decide +kernel
theorem dX12_plays_88 : decode cX12_plays 88 = .ok (.istore_n 3, 1) := by decide +kernel
theorem dX12_plays_89 : decode cX12_plays 89 = .ok (.goto (-17), 3) := by decide +kernel
theorem dX12_plays_92 : decode cX12_plays 92 = .ok (.return_, 1) := by decide +kernel
set_option maxRecDepth 20000 in
theorem ggX12_playsNow_X12_starts : GoodIn wsX12_playsNow wsX12_starts := goodIn_r _ [5, 6, 7, 8, 9, 10, 4, 11, 12, 13, 14, 37, 38, 39, 40, 41, 42, 43, 44, 45, 46, 47, 48, 49, 50, 51, 52, 53, 54, 55, 56, 57, 58, 59, 60] (by decide +kernel) (by decide +kernel)
set_option maxRecDepth 20000 in
theorem gX12_playsNow_X12_starts : GoodIn wsX12_playsNow (wsV RX12 146 RX12 yX12_starts wsX12_starts) := goodIn_app (goodIn_of _ (by decide +kernel)) ggX12_playsNow_X12_starts
set_option maxRecDepth 20000 in
theorem ggX12_playsNow_X12_plays : GoodIn wsX12_playsNow wsX12_plays := goodIn_r _ [18, 19, 6, 20, 21, 22, 14, 23, 12, 24, 25, 26, 4, 27, 28, 29, 30, 31, 32, 33, 34, 35, 36, 13, 37, 38, 39, 40, 41, 42, 43, 44, 45, 46, 47, 48, 49, 50, 51, 52, 53, 54, 55, 56, 57, 58, 59, 60] (by decide +kernel) (by decide +kernel)
set_option maxRecDepth 20000 in
theorem gX12_playsNow_X12_plays : GoodIn wsX12_playsNow (wsV RX12 149 RX12 yX12_plays wsX12_plays) := goodIn_app (goodIn_of _ (by decide +kernel)) ggX12_playsNow_X12_plays
theorem dX12_playsNow_0 : decode cX12_playsNow 0 = .ok (.aload_n 0, 1) := by decide +kernel
theorem dX12_playsNow_1 : decode cX12_playsNow 1 = .ok (.invokevirtual 146, 3) := by decide +kernel
theorem dX12_playsNow_4 : decode cX12_playsNow 4 = .ok (.aload_n 0, 1) := by decide +kernel
theorem dX12_playsNow_5 : decode cX12_playsNow 5 = .ok (.iload_n 1, 1) := by decide +kernel
theorem dX12_playsNow_6 : decode cX12_playsNow 6 = .ok (.iload_n 2, 1) := by decide +kernel
theorem dX12_playsNow_7 : decode cX12_playsNow 7 = .ok (.invokevirtual 149, 3) := by decide +kernel
theorem dX12_playsNow_10 : decode cX12_playsNow 10 = .ok (.return_, 1) := by decide +kernel
set_option maxRecDepth 20000 in
theorem ggX12_stands_X12_isPlace : GoodIn wsX12_stands wsX12_isPlace := goodIn_r _ [8, 9, 10, 11, 7, 12, 51, 52, 53, 54, 55, 56, 57, 58, 59, 60, 61, 62, 63, 64, 65, 66, 67, 68, 69, 70, 71, 72, 73, 74] (by decide +kernel) (by decide +kernel)
set_option maxRecDepth 20000 in
theorem gX12_stands_X12_isPlace : GoodIn wsX12_stands (wsV RX12 118 RX12 yX12_isPlace wsX12_isPlace) := goodIn_app (goodIn_of _ (by decide +kernel)) ggX12_stands_X12_isPlace
set_option maxRecDepth 20000 in
theorem ggX12_stands_X12_isMinute : GoodIn wsX12_stands wsX12_isMinute := goodIn_r _ [15, 10, 11, 7, 12] (by decide +kernel) (by decide +kernel)
set_option maxRecDepth 20000 in
theorem gX12_stands_X12_isMinute : GoodIn wsX12_stands (va_wsS RX12 153 yX12_isMinute wsX12_isMinute) := goodIn_app (goodIn_of _ (by decide +kernel)) ggX12_stands_X12_isMinute
set_option maxRecDepth 20000 in
theorem ggX12_stands_X12_playsNow : GoodIn wsX12_stands wsX12_playsNow := goodIn_r _ [19, 20, 21, 22, 7, 23, 24, 25, 26, 27, 28, 29, 30, 2, 31, 32, 33, 34, 35, 1, 36, 37, 38, 9, 39, 40, 41, 42, 43, 44, 45, 46, 3, 47, 48, 49, 50, 51, 52, 53, 54, 55, 56, 57, 58, 59, 60, 61, 62, 63, 64, 65, 66, 67, 68, 69, 70, 71, 72, 73, 74] (by decide +kernel) (by decide +kernel)
set_option maxRecDepth 20000 in
theorem gX12_stands_X12_playsNow : GoodIn wsX12_stands (wsV RX12 156 RX12 yX12_playsNow wsX12_playsNow) := goodIn_app (goodIn_of _ (by decide +kernel)) ggX12_stands_X12_playsNow
theorem dX12_stands_0 : decode cX12_stands 0 = .ok (.aload_n 0, 1) := by decide +kernel
theorem dX12_stands_1 : decode cX12_stands 1 = .ok (.iload_n 1, 1) := by decide +kernel
theorem dX12_stands_2 : decode cX12_stands 2 = .ok (.invokevirtual 118, 3) := by decide +kernel
theorem dX12_stands_5 : decode cX12_stands 5 = .ok (.ifCond .eq 15, 3) := by decide +kernel
theorem dX12_stands_8 : decode cX12_stands 8 = .ok (.iload_n 2, 1) := by decide +kernel
theorem dX12_stands_9 : decode cX12_stands 9 = .ok (.invokestatic 153, 3) := by decide +kernel
theorem dX12_stands_12 : decode cX12_stands 12 = .ok (.ifCond .eq 8, 3) := by decide +kernel
theorem dX12_stands_15 : decode cX12_stands 15 = .ok (.iload_n 3, 1) := by decide +kernel
theorem dX12_stands_16 : decode cX12_stands 16 = .ok (.iconst (-1), 1) := by decide +kernel
theorem dX12_stands_17 : decode cX12_stands 17 = .ok (.if_icmp .ge 5, 3) := by decide +kernel
theorem dX12_stands_20 : decode cX12_stands 20 = .ok (.iconst (-1), 1) := by decide +kernel
theorem dX12_stands_21 : decode cX12_stands 21 = .ok (.ireturn, 1) := by decide +kernel
theorem dX12_stands_22 : decode cX12_stands 22 = .ok (.aload_n 0, 1) := by decide +kernel
theorem dX12_stands_23 : decode cX12_stands 23 = .ok (.iload_n 1, 1) := by decide +kernel
theorem dX12_stands_24 : decode cX12_stands 24 = .ok (.iload_n 2, 1) := by decide +kernel
theorem dX12_stands_25 : decode cX12_stands 25 = .ok (.invokevirtual 156, 3) := by decide +kernel
theorem dX12_stands_28 : decode cX12_stands 28 = .ok (.iload_n 3, 1) := by decide +kernel
theorem dX12_stands_29 : decode cX12_stands 29 = .ok (.iconst (-1), 1) := by decide +kernel
theorem dX12_stands_30 : decode cX12_stands 30 = .ok (.if_icmp .ne 10, 3) := by decide +kernel
theorem dX12_stands_33 : decode cX12_stands 33 = .ok (.aload_n 0, 1) := by decide +kernel
theorem dX12_stands_34 : decode cX12_stands 34 = .ok (.getfield 134, 3) := by decide +kernel
theorem dX12_stands_37 : decode cX12_stands 37 = .ok (.goto 27, 3) := by decide +kernel
theorem dX12_stands_40 : decode cX12_stands 40 = .ok (.iload_n 3, 1) := by decide +kernel
theorem dX12_stands_41 : decode cX12_stands 41 = .ok (.aload_n 0, 1) := by decide +kernel
theorem dX12_stands_42 : decode cX12_stands 42 = .ok (.getfield 134, 3) := by decide +kernel
theorem dX12_stands_45 : decode cX12_stands 45 = .ok (.if_icmp .ge 17, 3) := by decide +kernel
theorem dX12_stands_48 : decode cX12_stands 48 = .ok (.aload_n 0, 1) := by decide +kernel
theorem dX12_stands_49 : decode cX12_stands 49 = .ok (.getfield 40, 3) := by decide +kernel
theorem dX12_stands_52 : decode cX12_stands 52 = .ok (.aload_n 0, 1) := by decide +kernel
theorem dX12_stands_53 : decode cX12_stands 53 = .ok (.getfield 56, 3) := by decide +kernel
theorem dX12_stands_56 : decode cX12_stands 56 = .ok (.iload_n 3, 1) := by decide +kernel
theorem dX12_stands_57 : decode cX12_stands 57 = .ok (.iaload, 1) := by decide +kernel
theorem dX12_stands_58 : decode cX12_stands 58 = .ok (.iaload, 1) := by decide +kernel
theorem dX12_stands_59 : decode cX12_stands 59 = .ok (.goto 5, 3) := by decide +kernel
theorem dX12_stands_62 : decode cX12_stands 62 = .ok (.bipush (-4), 2) := by decide +kernel
theorem dX12_stands_64 : decode cX12_stands 64 = .ok (.ireturn, 1) := by decide +kernel
theorem dX12_says_0 : decode cX12_says 0 = .ok (.iconst 0, 1) := by decide +kernel
theorem dX12_says_1 : decode cX12_says 1 = .ok (.istore_n 2, 1) := by decide +kernel
theorem dX12_says_2 : decode cX12_says 2 = .ok (.iconst 0, 1) := by decide +kernel
theorem dX12_says_3 : decode cX12_says 3 = .ok (.istore_n 3, 1) := by decide +kernel
theorem dX12_says_4 : decode cX12_says 4 = .ok (.iload_n 3, 1) := by decide +kernel
theorem dX12_says_5 : decode cX12_says 5 = .ok (.aload_n 0, 1) := by decide +kernel
theorem dX12_says_6 : decode cX12_says 6 = .ok (.getfield 134, 3) := by decide +kernel
theorem dX12_says_9 : decode cX12_says 9 = .ok (.if_icmp .ge 46, 3) := by decide +kernel
theorem dX12_says_12 : decode cX12_says 12 = .ok (.iload_n 1, 1) := by decide +kernel
theorem dX12_says_13 : decode cX12_says 13 = .ok (.aload_n 0, 1) := by decide +kernel
theorem dX12_says_14 : decode cX12_says 14 = .ok (.getfield 46, 3) := by decide +kernel
theorem dX12_says_17 : decode cX12_says 17 = .ok (.aload_n 0, 1) := by decide +kernel
theorem dX12_says_18 : decode cX12_says 18 = .ok (.getfield 56, 3) := by decide +kernel
theorem dX12_says_21 : decode cX12_says 21 = .ok (.iload_n 3, 1) := by decide +kernel
theorem dX12_says_22 : decode cX12_says 22 = .ok (.iaload, 1) := by decide +kernel
theorem dX12_says_23 : decode cX12_says 23 = .ok (.iaload, 1) := by decide +kernel
theorem dX12_says_24 : decode cX12_says 24 = .ok (.isub, 1) := by decide +kernel
theorem dX12_says_25 : decode cX12_says 25 = .ok (.aload_n 0, 1) := by decide +kernel
theorem dX12_says_26 : decode cX12_says 26 = .ok (.getfield 13, 3) := by decide +kernel
theorem dX12_says_29 : decode cX12_says 29 = .ok (.iconst 1, 1) := by decide +kernel
theorem dX12_says_30 : decode cX12_says 30 = .ok (.iaload, 1) := by decide +kernel
theorem dX12_says_31 : decode cX12_says 31 = .ok (.if_icmp .lt 18, 3) := by decide +kernel
theorem dX12_says_34 : decode cX12_says 34 = .ok (.aload_n 0, 1) := by decide +kernel
theorem dX12_says_35 : decode cX12_says 35 = .ok (.getfield 56, 3) := by decide +kernel
theorem dX12_says_38 : decode cX12_says 38 = .ok (.iload_n 2, 1) := by decide +kernel
theorem dX12_says_39 : decode cX12_says 39 = .ok (.aload_n 0, 1) := by decide +kernel
theorem dX12_says_40 : decode cX12_says 40 = .ok (.getfield 56, 3) := by decide +kernel
theorem dX12_says_43 : decode cX12_says 43 = .ok (.iload_n 3, 1) := by decide +kernel
theorem dX12_says_44 : decode cX12_says 44 = .ok (.iaload, 1) := by decide +kernel
theorem dX12_says_45 : decode cX12_says 45 = .ok (.iastore, 1) := by decide +kernel
theorem dX12_says_46 : decode cX12_says 46 = .ok (.iinc 2 1, 3) := by decide +kernel
theorem dX12_says_49 : decode cX12_says 49 = .ok (.iinc 3 1, 3) := by decide +kernel
theorem dX12_says_52 : decode cX12_says 52 = .ok (.goto (-48), 3) := by decide +kernel
theorem dX12_says_55 : decode cX12_says 55 = .ok (.iload_n 2, 1) := by decide +kernel
theorem dX12_says_56 : decode cX12_says 56 = .ok (.ireturn, 1) := by decide +kernel
set_option maxRecDepth 20000 in
theorem ggX12_said_X12_isPlace : GoodIn wsX12_said wsX12_isPlace := goodIn_r _ [5, 6, 7, 8, 4, 9, 55, 56, 57, 58, 59, 60, 61, 62, 63, 64, 65, 66, 67, 68, 69, 70, 71, 72, 73, 74, 75, 76, 77, 78] (by decide +kernel) (by decide +kernel)
set_option maxRecDepth 20000 in
theorem gX12_said_X12_isPlace : GoodIn wsX12_said (wsV RX12 118 RX12 yX12_isPlace wsX12_isPlace) := goodIn_app (goodIn_of _ (by decide +kernel)) ggX12_said_X12_isPlace
set_option maxRecDepth 20000 in
theorem ggX12_said_X12_isMinute : GoodIn wsX12_said wsX12_isMinute := goodIn_r _ [12, 7, 8, 4, 9] (by decide +kernel) (by decide +kernel)
set_option maxRecDepth 20000 in
theorem gX12_said_X12_isMinute : GoodIn wsX12_said (va_wsS RX12 153 yX12_isMinute wsX12_isMinute) := goodIn_app (goodIn_of _ (by decide +kernel)) ggX12_said_X12_isMinute
set_option maxRecDepth 20000 in
theorem ggX12_said_X12_playsNow : GoodIn wsX12_said wsX12_playsNow := goodIn_r _ [16, 17, 18, 19, 4, 20, 21, 22, 23, 24, 25, 26, 27, 28, 29, 30, 31, 32, 33, 34, 35, 36, 37, 6, 38, 39, 40, 41, 42, 43, 44, 45, 46, 47, 48, 49, 50, 55, 56, 57, 58, 59, 60, 61, 62, 63, 64, 65, 66, 67, 68, 69, 70, 71, 72, 73, 74, 75, 76, 77, 78] (by decide +kernel) (by decide +kernel)
set_option maxRecDepth 20000 in
theorem gX12_said_X12_playsNow : GoodIn wsX12_said (wsV RX12 156 RX12 yX12_playsNow wsX12_playsNow) := goodIn_app (goodIn_of _ (by decide +kernel)) ggX12_said_X12_playsNow
set_option maxRecDepth 20000 in
theorem ggX12_said_X12_says : GoodIn wsX12_said wsX12_says := goodIn_r _ [54, 34, 37, 46, 6, 55, 56, 57, 58, 59, 60, 61, 62, 63, 64, 65, 66, 67, 68, 69, 70, 71, 72, 73, 74, 75, 76, 77, 78] (by decide +kernel) (by decide +kernel)
set_option maxRecDepth 20000 in
theorem gX12_said_X12_says : GoodIn wsX12_said (wsV RX12 159 RX12 yX12_says wsX12_says) := goodIn_app (goodIn_of _ (by decide +kernel)) ggX12_said_X12_says
theorem dX12_said_0 : decode cX12_said 0 = .ok (.aload_n 0, 1) := by decide +kernel
theorem dX12_said_1 : decode cX12_said 1 = .ok (.iload_n 1, 1) := by decide +kernel
theorem dX12_said_2 : decode cX12_said 2 = .ok (.invokevirtual 118, 3) := by decide +kernel
theorem dX12_said_5 : decode cX12_said 5 = .ok (.ifCond .eq 10, 3) := by decide +kernel
theorem dX12_said_8 : decode cX12_said 8 = .ok (.iload_n 2, 1) := by decide +kernel
theorem dX12_said_9 : decode cX12_said 9 = .ok (.invokestatic 153, 3) := by decide +kernel
theorem dX12_said_12 : decode cX12_said 12 = .ok (.ifCond .ne 5, 3) := by decide +kernel
theorem dX12_said_15 : decode cX12_said 15 = .ok (.iconst (-1), 1) := by decide +kernel
theorem dX12_said_16 : decode cX12_said 16 = .ok (.ireturn, 1) := by decide +kernel
theorem dX12_said_17 : decode cX12_said 17 = .ok (.aload_n 0, 1) := by decide +kernel
theorem dX12_said_18 : decode cX12_said 18 = .ok (.iload_n 1, 1) := by decide +kernel
theorem dX12_said_19 : decode cX12_said 19 = .ok (.iload_n 2, 1) := by decide +kernel
theorem dX12_said_20 : decode cX12_said 20 = .ok (.invokevirtual 156, 3) := by decide +kernel
theorem dX12_said_23 : decode cX12_said 23 = .ok (.aload_n 0, 1) := by decide +kernel
theorem dX12_said_24 : decode cX12_said 24 = .ok (.iload_n 2, 1) := by decide +kernel
theorem dX12_said_25 : decode cX12_said 25 = .ok (.invokevirtual 159, 3) := by decide +kernel
theorem dX12_said_28 : decode cX12_said 28 = .ok (.ireturn, 1) := by decide +kernel
theorem dX12_isNext_0 : decode cX12_isNext 0 = .ok (.iload_n 2, 1) := by decide +kernel
theorem dX12_isNext_1 : decode cX12_isNext 1 = .ok (.aload_n 0, 1) := by decide +kernel
theorem dX12_isNext_2 : decode cX12_isNext 2 = .ok (.getfield 13, 3) := by decide +kernel
theorem dX12_isNext_5 : decode cX12_isNext 5 = .ok (.bipush 30, 2) := by decide +kernel
theorem dX12_isNext_7 : decode cX12_isNext 7 = .ok (.iload_n 1, 1) := by decide +kernel
theorem dX12_isNext_8 : decode cX12_isNext 8 = .ok (.iadd, 1) := by decide +kernel
theorem dX12_isNext_9 : decode cX12_isNext 9 = .ok (.iaload, 1) := by decide +kernel
theorem dX12_isNext_10 : decode cX12_isNext 10 = .ok (.iadd, 1) := by decide +kernel
theorem dX12_isNext_11 : decode cX12_isNext 11 = .ok (.iload_n 3, 1) := by decide +kernel
theorem dX12_isNext_12 : decode cX12_isNext 12 = .ok (.if_icmp .gt 7, 3) := by decide +kernel
theorem dX12_isNext_15 : decode cX12_isNext 15 = .ok (.iconst 1, 1) := by decide +kernel
theorem dX12_isNext_16 : decode cX12_isNext 16 = .ok (.goto 4, 3) := by decide +kernel
theorem dX12_isNext_19 : decode cX12_isNext 19 = .ok (.iconst 0, 1) := by decide +kernel
theorem dX12_isNext_20 : decode cX12_isNext 20 = .ok (.istore 4, 2) := by decide +kernel
theorem dX12_isNext_22 : decode cX12_isNext 22 = .ok (.iconst 0, 1) := by decide +kernel
theorem dX12_isNext_23 : decode cX12_isNext 23 = .ok (.istore 5, 2) := by decide +kernel
theorem dX12_isNext_25 : decode cX12_isNext 25 = .ok (.iload 5, 2) := by decide +kernel
theorem dX12_isNext_27 : decode cX12_isNext 27 = .ok (.aload_n 0, 1) := by decide +kernel
theorem dX12_isNext_28 : decode cX12_isNext 28 = .ok (.getfield 13, 3) := by decide +kernel
theorem dX12_isNext_31 : decode cX12_isNext 31 = .ok (.bipush 30, 2) := by decide +kernel
theorem dX12_isNext_33 : decode cX12_isNext 33 = .ok (.iload_n 1, 1) := by decide +kernel
theorem dX12_isNext_34 : decode cX12_isNext 34 = .ok (.iadd, 1) := by decide +kernel
theorem dX12_isNext_35 : decode cX12_isNext 35 = .ok (.iaload, 1) := by decide +kernel
theorem dX12_isNext_36 : decode cX12_isNext 36 = .ok (.if_icmp .ge 52, 3) := by decide +kernel
theorem dX12_isNext_39 : decode cX12_isNext 39 = .ok (.iload 4, 2) := by decide +kernel
theorem dX12_isNext_41 : decode cX12_isNext 41 = .ok (.ifCond .eq 47, 3) := by decide +kernel
theorem dX12_isNext_44 : decode cX12_isNext 44 = .ok (.aload_n 0, 1) := by decide +kernel
theorem dX12_isNext_45 : decode cX12_isNext 45 = .ok (.getfield 40, 3) := by decide +kernel
theorem dX12_isNext_48 : decode cX12_isNext 48 = .ok (.aload_n 0, 1) := by decide +kernel
theorem dX12_isNext_49 : decode cX12_isNext 49 = .ok (.getfield 56, 3) := by decide +kernel
theorem dX12_isNext_52 : decode cX12_isNext 52 = .ok (.iload_n 2, 1) := by decide +kernel
theorem dX12_isNext_53 : decode cX12_isNext 53 = .ok (.iload 5, 2) := by decide +kernel
theorem dX12_isNext_55 : decode cX12_isNext 55 = .ok (.iadd, 1) := by decide +kernel
theorem dX12_isNext_56 : decode cX12_isNext 56 = .ok (.iaload, 1) := by decide +kernel
theorem dX12_isNext_57 : decode cX12_isNext 57 = .ok (.iaload, 1) := by decide +kernel
theorem dX12_isNext_58 : decode cX12_isNext 58 = .ok (.aload_n 0, 1) := by decide +kernel
theorem dX12_isNext_59 : decode cX12_isNext 59 = .ok (.getfield 13, 3) := by decide +kernel
theorem dX12_isNext_62 : decode cX12_isNext 62 = .ok (.bipush 38, 2) := by decide +kernel
theorem dX12_isNext_64 : decode cX12_isNext 64 = .ok (.iconst 4, 1) := by decide +kernel
theorem dX12_isNext_65 : decode cX12_isNext 65 = .ok (.iload_n 1, 1) := by decide +kernel
theorem dX12_isNext_66 : decode cX12_isNext 66 = .ok (.imul, 1) := by decide +kernel
theorem dX12_isNext_67 : decode cX12_isNext 67 = .ok (.iadd, 1) := by decide +kernel
theorem dX12_isNext_68 : decode cX12_isNext 68 = .ok (.iload 5, 2) := by decide +kernel
theorem dX12_isNext_70 : decode cX12_isNext 70 = .ok (.iadd, 1) := by decide +kernel
theorem dX12_isNext_71 : decode cX12_isNext 71 = .ok (.iaload, 1) := by decide +kernel
theorem dX12_isNext_72 : decode cX12_isNext 72 = .ok (.if_icmp .ne 7, 3) := by decide +kernel
theorem dX12_isNext_75 : decode cX12_isNext 75 = .ok (.iconst 1, 1) := by decide +kernel
theorem dX12_isNext_76 : decode cX12_isNext 76 = .ok (.goto 4, 3) := by decide +kernel
theorem dX12_isNext_79 : decode cX12_isNext 79 = .ok (.iconst 0, 1) := by decide +kernel
theorem dX12_isNext_80 : decode cX12_isNext 80 = .ok (.istore 4, 2) := by decide +kernel
theorem dX12_isNext_82 : decode cX12_isNext 82 = .ok (.iinc 5 1, 3) := by decide +kernel
theorem dX12_isNext_85 : decode cX12_isNext 85 = .ok (.goto (-60), 3) := by decide +kernel
theorem dX12_isNext_88 : decode cX12_isNext 88 = .ok (.iload 4, 2) := by decide +kernel
theorem dX12_isNext_90 : decode cX12_isNext 90 = .ok (.ireturn, 1) := by decide +kernel
set_option maxRecDepth 20000 in
theorem ggX12_meaning_X12_isPlace : GoodIn wsX12_meaning wsX12_isPlace := goodIn_r _ [6, 1, 7, 8, 5, 9, 59, 60, 61, 62, 63, 64, 65, 66, 67, 68, 69, 70, 71, 72, 73, 74, 75, 76, 77, 78, 79, 80, 81, 82] (by decide +kernel) (by decide +kernel)
set_option maxRecDepth 20000 in
theorem gX12_meaning_X12_isPlace : GoodIn wsX12_meaning (wsV RX12 118 RX12 yX12_isPlace wsX12_isPlace) := goodIn_app (goodIn_of _ (by decide +kernel)) ggX12_meaning_X12_isPlace
set_option maxRecDepth 20000 in
theorem ggX12_meaning_X12_isMinute : GoodIn wsX12_meaning wsX12_isMinute := goodIn_r _ [12, 7, 8, 5, 9] (by decide +kernel) (by decide +kernel)
set_option maxRecDepth 20000 in
theorem gX12_meaning_X12_isMinute : GoodIn wsX12_meaning (va_wsS RX12 153 yX12_isMinute wsX12_isMinute) := goodIn_app (goodIn_of _ (by decide +kernel)) ggX12_meaning_X12_isMinute
set_option maxRecDepth 20000 in
theorem ggX12_meaning_X12_playsNow : GoodIn wsX12_meaning wsX12_playsNow := goodIn_r _ [16, 17, 18, 19, 5, 20, 21, 22, 23, 24, 25, 26, 27, 28, 29, 30, 31, 32, 33, 34, 35, 36, 37, 1, 38, 39, 40, 41, 42, 43, 44, 45, 46, 47, 48, 49, 50, 59, 60, 61, 62, 63, 64, 65, 66, 67, 68, 69, 70, 71, 72, 73, 74, 75, 76, 77, 78, 79, 80, 81, 82] (by decide +kernel) (by decide +kernel)
set_option maxRecDepth 20000 in
theorem gX12_meaning_X12_playsNow : GoodIn wsX12_meaning (wsV RX12 156 RX12 yX12_playsNow wsX12_playsNow) := goodIn_app (goodIn_of _ (by decide +kernel)) ggX12_meaning_X12_playsNow
set_option maxRecDepth 20000 in
theorem ggX12_meaning_X12_says : GoodIn wsX12_meaning wsX12_says := goodIn_r _ [54, 34, 37, 46, 1, 59, 60, 61, 62, 63, 64, 65, 66, 67, 68, 69, 70, 71, 72, 73, 74, 75, 76, 77, 78, 79, 80, 81, 82] (by decide +kernel) (by decide +kernel)
set_option maxRecDepth 20000 in
theorem gX12_meaning_X12_says : GoodIn wsX12_meaning (wsV RX12 159 RX12 yX12_says wsX12_says) := goodIn_app (goodIn_of _ (by decide +kernel)) ggX12_meaning_X12_says
set_option maxRecDepth 20000 in
theorem ggX12_meaning_X12_isNext : GoodIn wsX12_meaning wsX12_isNext := goodIn_r _ [58, 1, 28, 46, 59, 60, 61, 62, 63, 64, 65, 66, 67, 68, 69, 70, 71, 72, 73, 74, 75, 76, 77, 78, 79, 80, 81, 82] (by decide +kernel) (by decide +kernel)
set_option maxRecDepth 20000 in
theorem gX12_meaning_X12_isNext : GoodIn wsX12_meaning (wsV RX12 162 RX12 yX12_isNext wsX12_isNext) := goodIn_app (goodIn_of _ (by decide +kernel)) ggX12_meaning_X12_isNext
theorem dX12_meaning_0 : decode cX12_meaning 0 = .ok (.aload_n 0, 1) := by decide +kernel
theorem dX12_meaning_1 : decode cX12_meaning 1 = .ok (.iload_n 1, 1) := by decide +kernel
theorem dX12_meaning_2 : decode cX12_meaning 2 = .ok (.invokevirtual 118, 3) := by decide +kernel
theorem dX12_meaning_5 : decode cX12_meaning 5 = .ok (.ifCond .eq 14, 3) := by decide +kernel
theorem dX12_meaning_8 : decode cX12_meaning 8 = .ok (.iload_n 2, 1) := by decide +kernel
theorem dX12_meaning_9 : decode cX12_meaning 9 = .ok (.invokestatic 153, 3) := by decide +kernel
theorem dX12_meaning_12 : decode cX12_meaning 12 = .ok (.ifCond .eq 7, 3) := by decide +kernel
theorem dX12_meaning_15 : decode cX12_meaning 15 = .ok (.iload_n 3, 1) := by decide +kernel
theorem dX12_meaning_16 : decode cX12_meaning 16 = .ok (.ifCond .ge 5, 3) := by decide +kernel
theorem dX12_meaning_19 : decode cX12_meaning 19 = .ok (.iconst (-1), 1) := by decide +kernel
theorem dX12_meaning_20 : decode cX12_meaning 20 = .ok (.ireturn, 1) := by decide +kernel
theorem dX12_meaning_21 : decode cX12_meaning 21 = .ok (.aload_n 0, 1) := by decide +kernel
theorem dX12_meaning_22 : decode cX12_meaning 22 = .ok (.iload_n 1, 1) := by decide +kernel
theorem dX12_meaning_23 : decode cX12_meaning 23 = .ok (.iload_n 2, 1) := by decide +kernel
theorem dX12_meaning_24 : decode cX12_meaning 24 = .ok (.invokevirtual 156, 3) := by decide +kernel
theorem dX12_meaning_27 : decode cX12_meaning 27 = .ok (.aload_n 0, 1) := by decide +kernel
theorem dX12_meaning_28 : decode cX12_meaning 28 = .ok (.iload_n 2, 1) := by decide +kernel
theorem dX12_meaning_29 : decode cX12_meaning 29 = .ok (.invokevirtual 159, 3) := by decide +kernel
theorem dX12_meaning_32 : decode cX12_meaning 32 = .ok (.istore 4, 2) := by decide +kernel
theorem dX12_meaning_34 : decode cX12_meaning 34 = .ok (.iconst 0, 1) := by decide +kernel
theorem dX12_meaning_35 : decode cX12_meaning 35 = .ok (.istore 5, 2) := by decide +kernel
theorem dX12_meaning_37 : decode cX12_meaning 37 = .ok (.iconst 0, 1) := by decide +kernel
theorem dX12_meaning_38 : decode cX12_meaning 38 = .ok (.istore 6, 2) := by decide +kernel
theorem dX12_meaning_40 : decode cX12_meaning 40 = .ok (.iload 5, 2) := by decide +kernel
theorem dX12_meaning_42 : decode cX12_meaning 42 = .ok (.iload 4, 2) := by decide +kernel
theorem dX12_meaning_44 : decode cX12_meaning 44 = .ok (.if_icmp .ge 155, 3) := by decide +kernel
theorem dX12_meaning_47 : decode cX12_meaning 47 = .ok (.bipush (-4), 2) := by decide +kernel
theorem dX12_meaning_49 : decode cX12_meaning 49 = .ok (.istore 7, 2) := by decide +kernel
theorem dX12_meaning_51 : decode cX12_meaning 51 = .ok (.iconst 0, 1) := by decide +kernel
theorem dX12_meaning_52 : decode cX12_meaning 52 = .ok (.istore 8, 2) := by decide +kernel
theorem dX12_meaning_54 : decode cX12_meaning 54 = .ok (.iconst 0, 1) := by decide +kernel
theorem dX12_meaning_55 : decode cX12_meaning 55 = .ok (.istore 9, 2) := by decide +kernel
theorem dX12_meaning_57 : decode cX12_meaning 57 = .ok (.iload 9, 2) := by decide +kernel
theorem dX12_meaning_59 : decode cX12_meaning 59 = .ok (.aload_n 0, 1) := by decide +kernel
theorem dX12_meaning_60 : decode cX12_meaning 60 = .ok (.getfield 13, 3) := by decide +kernel
theorem dX12_meaning_63 : decode cX12_meaning 63 = .ok (.iconst 4, 1) := by decide +kernel
theorem dX12_meaning_64 : decode cX12_meaning 64 = .ok (.iaload, 1) := by decide +kernel
theorem dX12_meaning_65 : decode cX12_meaning 65 = .ok (.if_icmp .ge 80, 3) := by decide +kernel
theorem dX12_meaning_68 : decode cX12_meaning 68 = .ok (.aload_n 0, 1) := by decide +kernel
theorem dX12_meaning_69 : decode cX12_meaning 69 = .ok (.getfield 13, 3) := by decide +kernel
theorem dX12_meaning_72 : decode cX12_meaning 72 = .ok (.bipush 30, 2) := by decide +kernel
theorem dX12_meaning_74 : decode cX12_meaning 74 = .ok (.iload 9, 2) := by decide +kernel
theorem dX12_meaning_76 : decode cX12_meaning 76 = .ok (.iadd, 1) := by decide +kernel
theorem dX12_meaning_77 : decode cX12_meaning 77 = .ok (.iaload, 1) := by decide +kernel
theorem dX12_meaning_78 : decode cX12_meaning 78 = .ok (.iload 8, 2) := by decide +kernel
theorem dX12_meaning_80 : decode cX12_meaning 80 = .ok (.if_icmp .le 20, 3) := by decide +kernel
theorem dX12_meaning_83 : decode cX12_meaning 83 = .ok (.aload_n 0, 1) := by decide +kernel
theorem dX12_meaning_84 : decode cX12_meaning 84 = .ok (.iload 9, 2) := by decide +kernel
theorem dX12_meaning_86 : decode cX12_meaning 86 = .ok (.iload 5, 2) := by decide +kernel
theorem dX12_meaning_88 : decode cX12_meaning 88 = .ok (.iload 4, 2) := by decide +kernel
theorem dX12_meaning_90 : decode cX12_meaning 90 = .ok (.invokevirtual 162, 3) := by decide +kernel
theorem dX12_meaning_93 : decode cX12_meaning 93 = .ok (.ifCond .eq 7, 3) := by decide +kernel
theorem dX12_meaning_96 : decode cX12_meaning 96 = .ok (.iconst 1, 1) := by decide +kernel
theorem dX12_meaning_97 : decode cX12_meaning 97 = .ok (.goto 4, 3) := by decide +kernel
theorem dX12_meaning_100 : decode cX12_meaning 100 = .ok (.iconst 0, 1) := by decide +kernel
theorem dX12_meaning_101 : decode cX12_meaning 101 = .ok (.istore 10, 2) := by decide +kernel
theorem dX12_meaning_103 : decode cX12_meaning 103 = .ok (.iload 10, 2) := by decide +kernel
theorem dX12_meaning_105 : decode cX12_meaning 105 = .ok (.ifCond .eq 8, 3) := by decide +kernel
theorem dX12_meaning_108 : decode cX12_meaning 108 = .ok (.iload 9, 2) := by decide +kernel
theorem dX12_meaning_110 : decode cX12_meaning 110 = .ok (.goto 5, 3) := by decide +kernel
theorem dX12_meaning_113 : decode cX12_meaning 113 = .ok (.iload 7, 2) := by decide +kernel
theorem dX12_meaning_115 : decode cX12_meaning 115 = .ok (.istore 7, 2) := by decide +kernel
theorem dX12_meaning_117 : decode cX12_meaning 117 = .ok (.iload 10, 2) := by decide +kernel
theorem dX12_meaning_119 : decode cX12_meaning 119 = .ok (.ifCond .eq 16, 3) := by decide +kernel
theorem dX12_meaning_122 : decode cX12_meaning 122 = .ok (.aload_n 0, 1) := by decide +kernel
theorem dX12_meaning_123 : decode cX12_meaning 123 = .ok (.getfield 13, 3) := by decide +kernel
theorem dX12_meaning_126 : decode cX12_meaning 126 = .ok (.bipush 30, 2) := by decide +kernel
theorem dX12_meaning_128 : decode cX12_meaning 128 = .ok (.iload 9, 2) := by decide +kernel
theorem dX12_meaning_130 : decode cX12_meaning 130 = .ok (.iadd, 1) := by decide +kernel
theorem dX12_meaning_131 : decode cX12_meaning 131 = .ok (.iaload, 1) := by decide +kernel
theorem dX12_meaning_132 : decode cX12_meaning 132 = .ok (.goto 5, 3) := by decide +kernel
theorem dX12_meaning_135 : decode cX12_meaning 135 = .ok (.iload 8, 2) := by decide +kernel
theorem dX12_meaning_137 : decode cX12_meaning 137 = .ok (.istore 8, 2) := by decide +kernel
theorem dX12_meaning_139 : decode cX12_meaning 139 = .ok (.iinc 9 1, 3) := by decide +kernel
theorem dX12_meaning_142 : decode cX12_meaning 142 = .ok (.goto (-85), 3) := by decide +kernel
theorem dX12_meaning_145 : decode cX12_meaning 145 = .ok (.iload 7, 2) := by decide +kernel
theorem dX12_meaning_147 : decode cX12_meaning 147 = .ok (.bipush (-4), 2) := by decide +kernel
theorem dX12_meaning_149 : decode cX12_meaning 149 = .ok (.if_icmp .eq 12, 3) := by decide +kernel
theorem dX12_meaning_152 : decode cX12_meaning 152 = .ok (.iload 6, 2) := by decide +kernel
theorem dX12_meaning_154 : decode cX12_meaning 154 = .ok (.iload_n 3, 1) := by decide +kernel
theorem dX12_meaning_155 : decode cX12_meaning 155 = .ok (.if_icmp .ne 6, 3) := by decide +kernel
theorem dX12_meaning_158 : decode cX12_meaning 158 = .ok (.iload 7, 2) := by decide +kernel
theorem dX12_meaning_160 : decode cX12_meaning 160 = .ok (.ireturn, 1) := by decide +kernel
theorem dX12_meaning_161 : decode cX12_meaning 161 = .ok (.iload 6, 2) := by decide +kernel
theorem dX12_meaning_163 : decode cX12_meaning 163 = .ok (.iload 7, 2) := by decide +kernel
theorem dX12_meaning_165 : decode cX12_meaning 165 = .ok (.bipush (-4), 2) := by decide +kernel
theorem dX12_meaning_167 : decode cX12_meaning 167 = .ok (.if_icmp .ne 7, 3) := by decide +kernel
theorem dX12_meaning_170 : decode cX12_meaning 170 = .ok (.iconst 0, 1) := by decide +kernel
theorem dX12_meaning_171 : decode cX12_meaning 171 = .ok (.goto 4, 3) := by decide +kernel
theorem dX12_meaning_174 : decode cX12_meaning 174 = .ok (.iconst 1, 1) := by decide +kernel
theorem dX12_meaning_175 : decode cX12_meaning 175 = .ok (.iadd, 1) := by decide +kernel
theorem dX12_meaning_176 : decode cX12_meaning 176 = .ok (.istore 6, 2) := by decide +kernel
theorem dX12_meaning_178 : decode cX12_meaning 178 = .ok (.iload 5, 2) := by decide +kernel
theorem dX12_meaning_180 : decode cX12_meaning 180 = .ok (.iload 7, 2) := by decide +kernel
theorem dX12_meaning_182 : decode cX12_meaning 182 = .ok (.bipush (-4), 2) := by decide +kernel
theorem dX12_meaning_184 : decode cX12_meaning 184 = .ok (.if_icmp .ne 7, 3) := by decide +kernel
theorem dX12_meaning_187 : decode cX12_meaning 187 = .ok (.iconst 1, 1) := by decide +kernel
theorem dX12_meaning_188 : decode cX12_meaning 188 = .ok (.goto 5, 3) := by decide +kernel
theorem dX12_meaning_191 : decode cX12_meaning 191 = .ok (.iload 8, 2) := by decide +kernel
theorem dX12_meaning_193 : decode cX12_meaning 193 = .ok (.iadd, 1) := by decide +kernel
theorem dX12_meaning_194 : decode cX12_meaning 194 = .ok (.istore 5, 2) := by decide +kernel
theorem dX12_meaning_196 : decode cX12_meaning 196 = .ok (.goto (-156), 3) := by decide +kernel
theorem dX12_meaning_199 : decode cX12_meaning 199 = .ok (.bipush (-4), 2) := by decide +kernel
theorem dX12_meaning_201 : decode cX12_meaning 201 = .ok (.ireturn, 1) := by decide +kernel
set_option maxRecDepth 20000 in
theorem ggX12_goes_X12_starts : GoodIn wsX12_goes wsX12_starts := goodIn_r _ [10, 5, 2, 11, 12, 13, 9, 14, 15, 1, 16, 37, 38, 39, 40, 41, 42, 43, 44, 45, 46, 47, 48, 49, 50, 51, 52, 53, 54, 55, 56, 57, 58, 59, 60] (by decide +kernel) (by decide +kernel)
set_option maxRecDepth 20000 in
theorem gX12_goes_X12_starts : GoodIn wsX12_goes (wsV RX12 146 RX12 yX12_starts wsX12_starts) := goodIn_app (goodIn_of _ (by decide +kernel)) ggX12_goes_X12_starts
set_option maxRecDepth 20000 in
theorem ggX12_goes_X12_tries : GoodIn wsX12_goes wsX12_tries := goodIn_r _ [14, 15, 5, 1, 16, 37, 38, 39, 40, 41, 42, 43, 44, 45, 46, 47, 48, 49, 50, 51, 52, 53, 54, 55, 56, 57, 58, 59, 60] (by decide +kernel) (by decide +kernel)
set_option maxRecDepth 20000 in
theorem gX12_goes_X12_tries : GoodIn wsX12_goes (wsV RX12 130 RX12 yX12_tries wsX12_tries) := goodIn_app (goodIn_of _ (by decide +kernel)) ggX12_goes_X12_tries
set_option maxRecDepth 20000 in
theorem ggX12_goes_X12_plays : GoodIn wsX12_goes wsX12_plays := goodIn_r _ [20, 21, 5, 22, 4, 23, 16, 3, 15, 24, 25, 26, 9, 27, 28, 29, 30, 31, 32, 33, 34, 35, 36, 1, 37, 38, 39, 40, 41, 42, 43, 44, 45, 46, 47, 48, 49, 50, 51, 52, 53, 54, 55, 56, 57, 58, 59, 60] (by decide +kernel) (by decide +kernel)
set_option maxRecDepth 20000 in
theorem gX12_goes_X12_plays : GoodIn wsX12_goes (wsV RX12 149 RX12 yX12_plays wsX12_plays) := goodIn_app (goodIn_of _ (by decide +kernel)) ggX12_goes_X12_plays
theorem dX12_goes_0 : decode cX12_goes 0 = .ok (.aload_n 0, 1) := by decide +kernel
theorem dX12_goes_1 : decode cX12_goes 1 = .ok (.invokevirtual 146, 3) := by decide +kernel
theorem dX12_goes_4 : decode cX12_goes 4 = .ok (.aload_n 0, 1) := by decide +kernel
theorem dX12_goes_5 : decode cX12_goes 5 = .ok (.iload_n 3, 1) := by decide +kernel
theorem dX12_goes_6 : decode cX12_goes 6 = .ok (.aload_n 0, 1) := by decide +kernel
theorem dX12_goes_7 : decode cX12_goes 7 = .ok (.getfield 40, 3) := by decide +kernel
theorem dX12_goes_10 : decode cX12_goes 10 = .ok (.iload_n 2, 1) := by decide +kernel
theorem dX12_goes_11 : decode cX12_goes 11 = .ok (.iaload, 1) := by decide +kernel
theorem dX12_goes_12 : decode cX12_goes 12 = .ok (.aload_n 0, 1) := by decide +kernel
theorem dX12_goes_13 : decode cX12_goes 13 = .ok (.getfield 19, 3) := by decide +kernel
theorem dX12_goes_16 : decode cX12_goes 16 = .ok (.iconst 1, 1) := by decide +kernel
theorem dX12_goes_17 : decode cX12_goes 17 = .ok (.iaload, 1) := by decide +kernel
theorem dX12_goes_18 : decode cX12_goes 18 = .ok (.invokevirtual 130, 3) := by decide +kernel
theorem dX12_goes_21 : decode cX12_goes 21 = .ok (.aload_n 0, 1) := by decide +kernel
theorem dX12_goes_22 : decode cX12_goes 22 = .ok (.iload_n 1, 1) := by decide +kernel
theorem dX12_goes_23 : decode cX12_goes 23 = .ok (.aload_n 0, 1) := by decide +kernel
theorem dX12_goes_24 : decode cX12_goes 24 = .ok (.getfield 19, 3) := by decide +kernel
theorem dX12_goes_27 : decode cX12_goes 27 = .ok (.iconst 1, 1) := by decide +kernel
theorem dX12_goes_28 : decode cX12_goes 28 = .ok (.iaload, 1) := by decide +kernel
theorem dX12_goes_29 : decode cX12_goes 29 = .ok (.aload_n 0, 1) := by decide +kernel
theorem dX12_goes_30 : decode cX12_goes 30 = .ok (.getfield 13, 3) := by decide +kernel
theorem dX12_goes_33 : decode cX12_goes 33 = .ok (.iconst 5, 1) := by decide +kernel
theorem dX12_goes_34 : decode cX12_goes 34 = .ok (.iconst 5, 1) := by decide +kernel
theorem dX12_goes_35 : decode cX12_goes 35 = .ok (.iload_n 3, 1) := by decide +kernel
theorem dX12_goes_36 : decode cX12_goes 36 = .ok (.imul, 1) := by decide +kernel
theorem dX12_goes_37 : decode cX12_goes 37 = .ok (.iadd, 1) := by decide +kernel
theorem dX12_goes_38 : decode cX12_goes 38 = .ok (.iload_n 1, 1) := by decide +kernel
theorem dX12_goes_39 : decode cX12_goes 39 = .ok (.iadd, 1) := by decide +kernel
theorem dX12_goes_40 : decode cX12_goes 40 = .ok (.iaload, 1) := by decide +kernel
theorem dX12_goes_41 : decode cX12_goes 41 = .ok (.iadd, 1) := by decide +kernel
theorem dX12_goes_42 : decode cX12_goes 42 = .ok (.invokevirtual 149, 3) := by decide +kernel
theorem dX12_goes_45 : decode cX12_goes 45 = .ok (.aload_n 0, 1) := by decide +kernel
theorem dX12_goes_46 : decode cX12_goes 46 = .ok (.getfield 53, 3) := by decide +kernel
theorem dX12_goes_49 : decode cX12_goes 49 = .ok (.iload_n 2, 1) := by decide +kernel
theorem dX12_goes_50 : decode cX12_goes 50 = .ok (.iaload, 1) := by decide +kernel
theorem dX12_goes_51 : decode cX12_goes 51 = .ok (.aload_n 0, 1) := by decide +kernel
theorem dX12_goes_52 : decode cX12_goes 52 = .ok (.getfield 127, 3) := by decide +kernel
theorem dX12_goes_55 : decode cX12_goes 55 = .ok (.iconst 1, 1) := by decide +kernel
theorem dX12_goes_56 : decode cX12_goes 56 = .ok (.isub, 1) := by decide +kernel
theorem dX12_goes_57 : decode cX12_goes 57 = .ok (.if_icmp .ne 7, 3) := by decide +kernel
theorem dX12_goes_60 : decode cX12_goes 60 = .ok (.iconst 1, 1) := by decide +kernel
theorem dX12_goes_61 : decode cX12_goes 61 = .ok (.goto 4, 3) := by decide +kernel
theorem dX12_goes_64 : decode cX12_goes 64 = .ok (.iconst 0, 1) := by decide +kernel
theorem dX12_goes_65 : decode cX12_goes 65 = .ok (.ireturn, 1) := by decide +kernel
set_option maxRecDepth 20000 in
theorem ggX12_unsay_X12_isPlace : GoodIn wsX12_unsay wsX12_isPlace := goodIn_r _ [8, 9, 10, 11, 7, 12, 52, 53, 54, 55, 56, 57, 58, 59, 60, 61, 62, 63, 64, 65, 66, 67, 68, 69, 70, 71, 72, 73, 74, 75] (by decide +kernel) (by decide +kernel)
set_option maxRecDepth 20000 in
theorem gX12_unsay_X12_isPlace : GoodIn wsX12_unsay (wsV RX12 118 RX12 yX12_isPlace wsX12_isPlace) := goodIn_app (goodIn_of _ (by decide +kernel)) ggX12_unsay_X12_isPlace
set_option maxRecDepth 20000 in
theorem ggX12_unsay_X12_playsNow : GoodIn wsX12_unsay wsX12_playsNow := goodIn_r _ [16, 17, 18, 19, 7, 20, 21, 1, 22, 23, 24, 25, 26, 27, 28, 29, 30, 31, 32, 2, 33, 34, 35, 9, 36, 37, 38, 39, 40, 41, 42, 43, 3, 44, 45, 46, 47, 52, 53, 54, 55, 56, 57, 58, 59, 60, 61, 62, 63, 64, 65, 66, 67, 68, 69, 70, 71, 72, 73, 74, 75] (by decide +kernel) (by decide +kernel)
set_option maxRecDepth 20000 in
theorem gX12_unsay_X12_playsNow : GoodIn wsX12_unsay (wsV RX12 156 RX12 yX12_playsNow wsX12_playsNow) := goodIn_app (goodIn_of _ (by decide +kernel)) ggX12_unsay_X12_playsNow
set_option maxRecDepth 20000 in
theorem ggX12_unsay_X12_goes : GoodIn wsX12_unsay wsX12_goes := goodIn_r _ [51, 27, 1, 9, 34, 21, 17, 18, 19, 7, 20, 22, 23, 24, 25, 26, 28, 29, 30, 31, 32, 2, 33, 35, 36, 37, 38, 39, 40, 41, 42, 43, 3, 44, 45, 46, 47, 52, 53, 54, 55, 56, 57, 58, 59, 60, 61, 62, 63, 64, 65, 66, 67, 68, 69, 70, 71, 72, 73, 74, 75] (by decide +kernel) (by decide +kernel)
set_option maxRecDepth 20000 in
theorem gX12_unsay_X12_goes : GoodIn wsX12_unsay (wsV RX12 165 RX12 yX12_goes wsX12_goes) := goodIn_app (goodIn_of _ (by decide +kernel)) ggX12_unsay_X12_goes
theorem dX12_unsay_0 : decode cX12_unsay 0 = .ok (.aload_n 0, 1) := by decide +kernel
theorem dX12_unsay_1 : decode cX12_unsay 1 = .ok (.iload_n 1, 1) := by decide +kernel
theorem dX12_unsay_2 : decode cX12_unsay 2 = .ok (.invokevirtual 118, 3) := by decide +kernel
theorem dX12_unsay_5 : decode cX12_unsay 5 = .ok (.ifCond .eq 15, 3) := by decide +kernel
theorem dX12_unsay_8 : decode cX12_unsay 8 = .ok (.iload_n 2, 1) := by decide +kernel
theorem dX12_unsay_9 : decode cX12_unsay 9 = .ok (.ifCond .lt 11, 3) := by decide +kernel
theorem dX12_unsay_12 : decode cX12_unsay 12 = .ok (.aload_n 0, 1) := by decide +kernel
theorem dX12_unsay_13 : decode cX12_unsay 13 = .ok (.iload_n 3, 1) := by decide +kernel
theorem dX12_unsay_14 : decode cX12_unsay 14 = .ok (.invokevirtual 118, 3) := by decide +kernel
theorem dX12_unsay_17 : decode cX12_unsay 17 = .ok (.ifCond .ne 5, 3) := by decide +kernel
theorem dX12_unsay_20 : decode cX12_unsay 20 = .ok (.iconst (-1), 1) := by decide +kernel
theorem dX12_unsay_21 : decode cX12_unsay 21 = .ok (.ireturn, 1) := by decide +kernel
theorem dX12_unsay_22 : decode cX12_unsay 22 = .ok (.aload_n 0, 1) := by decide +kernel
theorem dX12_unsay_23 : decode cX12_unsay 23 = .ok (.iload_n 1, 1) := by decide +kernel
theorem dX12_unsay_24 : decode cX12_unsay 24 = .ok (.aload_n 0, 1) := by decide +kernel
theorem dX12_unsay_25 : decode cX12_unsay 25 = .ok (.getfield 19, 3) := by decide +kernel
theorem dX12_unsay_28 : decode cX12_unsay 28 = .ok (.iconst 1, 1) := by decide +kernel
theorem dX12_unsay_29 : decode cX12_unsay 29 = .ok (.iaload, 1) := by decide +kernel
theorem dX12_unsay_30 : decode cX12_unsay 30 = .ok (.invokevirtual 156, 3) := by decide +kernel
theorem dX12_unsay_33 : decode cX12_unsay 33 = .ok (.iload_n 2, 1) := by decide +kernel
theorem dX12_unsay_34 : decode cX12_unsay 34 = .ok (.aload_n 0, 1) := by decide +kernel
