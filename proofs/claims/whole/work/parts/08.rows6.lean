theorem dX12_numbers_28 : decode cX12_numbers 28 = .ok (.invokevirtual 83, 3) := by decide +kernel
theorem dX12_numbers_31 : decode cX12_numbers 31 = .ok (.ifCond .eq 35, 3) := by decide +kernel
theorem dX12_numbers_34 : decode cX12_numbers 34 = .ok (.bipush 10, 2) := by decide +kernel
theorem dX12_numbers_36 : decode cX12_numbers 36 = .ok (.iload 4, 2) := by decide +kernel
theorem dX12_numbers_38 : decode cX12_numbers 38 = .ok (.imul, 1) := by decide +kernel
theorem dX12_numbers_39 : decode cX12_numbers 39 = .ok (.aload_n 0, 1) := by decide +kernel
theorem dX12_numbers_40 : decode cX12_numbers 40 = .ok (.aload_n 0, 1) := by decide +kernel
theorem dX12_numbers_41 : decode cX12_numbers 41 = .ok (.getfield 76, 3) := by decide +kernel
theorem dX12_numbers_44 : decode cX12_numbers 44 = .ok (.invokevirtual 79, 3) := by decide +kernel
theorem dX12_numbers_47 : decode cX12_numbers 47 = .ok (.iadd, 1) := by decide +kernel
theorem dX12_numbers_48 : decode cX12_numbers 48 = .ok (.bipush 48, 2) := by decide +kernel
theorem dX12_numbers_50 : decode cX12_numbers 50 = .ok (.isub, 1) := by decide +kernel
theorem dX12_numbers_51 : decode cX12_numbers 51 = .ok (.istore 4, 2) := by decide +kernel
theorem dX12_numbers_53 : decode cX12_numbers 53 = .ok (.aload_n 0, 1) := by decide +kernel
theorem dX12_numbers_54 : decode cX12_numbers 54 = .ok (.dup, 1) := by decide +kernel
theorem dX12_numbers_55 : decode cX12_numbers 55 = .ok (.getfield 76, 3) := by decide +kernel
theorem dX12_numbers_58 : decode cX12_numbers 58 = .ok (.iconst 1, 1) := by decide +kernel
theorem dX12_numbers_59 : decode cX12_numbers 59 = .ok (.iadd, 1) := by decide +kernel
theorem dX12_numbers_60 : decode cX12_numbers 60 = .ok (.putfield 76, 3) := by decide +kernel
theorem dX12_numbers_63 : decode cX12_numbers 63 = .ok (.goto (-48), 3) := by decide +kernel
theorem dX12_numbers_66 : decode cX12_numbers 66 = .ok (.aload_n 0, 1) := by decide +kernel
theorem dX12_numbers_67 : decode cX12_numbers 67 = .ok (.getfield 34, 3) := by decide +kernel
theorem dX12_numbers_70 : decode cX12_numbers 70 = .ok (.iload_n 2, 1) := by decide +kernel
theorem dX12_numbers_71 : decode cX12_numbers 71 = .ok (.iload 4, 2) := by decide +kernel
theorem dX12_numbers_73 : decode cX12_numbers 73 = .ok (.iastore, 1) := by decide +kernel
theorem dX12_numbers_74 : decode cX12_numbers 74 = .ok (.aload_n 0, 1) := by decide +kernel
theorem dX12_numbers_75 : decode cX12_numbers 75 = .ok (.getfield 76, 3) := by decide +kernel
theorem dX12_numbers_78 : decode cX12_numbers 78 = .ok (.iload_n 3, 1) := by decide +kernel
theorem dX12_numbers_79 : decode cX12_numbers 79 = .ok (.if_icmp .eq 28, 3) := by decide +kernel
theorem dX12_numbers_82 : decode cX12_numbers 82 = .ok (.aload_n 0, 1) := by decide +kernel
theorem dX12_numbers_83 : decode cX12_numbers 83 = .ok (.aload_n 0, 1) := by decide +kernel
theorem dX12_numbers_84 : decode cX12_numbers 84 = .ok (.getfield 76, 3) := by decide +kernel
theorem dX12_numbers_87 : decode cX12_numbers 87 = .ok (.invokevirtual 79, 3) := by decide +kernel
theorem dX12_numbers_90 : decode cX12_numbers 90 = .ok (.iload_n 2, 1) := by decide +kernel
theorem dX12_numbers_91 : decode cX12_numbers 91 = .ok (.iload_n 1, 1) := by decide +kernel
theorem dX12_numbers_92 : decode cX12_numbers 92 = .ok (.iconst 1, 1) := by decide +kernel
theorem dX12_numbers_93 : decode cX12_numbers 93 = .ok (.isub, 1) := by decide +kernel
theorem dX12_numbers_94 : decode cX12_numbers 94 = .ok (.if_icmp .ge 8, 3) := by decide +kernel
theorem dX12_numbers_97 : decode cX12_numbers 97 = .ok (.bipush 44, 2) := by decide +kernel
theorem dX12_numbers_99 : decode cX12_numbers 99 = .ok (.goto 5, 3) := by decide +kernel
theorem dX12_numbers_102 : decode cX12_numbers 102 = .ok (.bipush 59, 2) := by decide +kernel
theorem dX12_numbers_104 : decode cX12_numbers 104 = .ok (.if_icmp .eq 5, 3) := by decide +kernel
theorem dX12_numbers_107 : decode cX12_numbers 107 = .ok (.iconst 0, 1) := by decide +kernel
theorem dX12_numbers_108 : decode cX12_numbers 108 = .ok (.ireturn, 1) := by decide +kernel
theorem dX12_numbers_109 : decode cX12_numbers 109 = .ok (.aload_n 0, 1) := by decide +kernel
theorem dX12_numbers_110 : decode cX12_numbers 110 = .ok (.dup, 1) := by decide +kernel
theorem dX12_numbers_111 : decode cX12_numbers 111 = .ok (.getfield 76, 3) := by decide +kernel
theorem dX12_numbers_114 : decode cX12_numbers 114 = .ok (.iconst 1, 1) := by decide +kernel
theorem dX12_numbers_115 : decode cX12_numbers 115 = .ok (.iadd, 1) := by decide +kernel
theorem dX12_numbers_116 : decode cX12_numbers 116 = .ok (.putfield 76, 3) := by decide +kernel
theorem dX12_numbers_119 : decode cX12_numbers 119 = .ok (.iinc 2 1, 3) := by decide +kernel
theorem dX12_numbers_122 : decode cX12_numbers 122 = .ok (.goto (-120), 3) := by decide +kernel
theorem dX12_numbers_125 : decode cX12_numbers 125 = .ok (.iconst 1, 1) := by decide +kernel
theorem dX12_numbers_126 : decode cX12_numbers 126 = .ok (.ireturn, 1) := by decide +kernel
set_option maxRecDepth 20000 in
theorem ggX12_one_X12_numbers : GoodIn wsX12_one wsX12_numbers := goodIn_r _ [7, 8, 1, 9, 10, 11, 6, 12, 13, 14, 15, 16, 17, 18, 19, 20, 21, 22, 23, 24, 25, 26, 27, 28, 29, 30, 31, 32, 33, 34, 35, 36, 37, 38, 39, 40, 41, 42, 43, 44, 45] (by decide +kernel) (by decide +kernel)
set_option maxRecDepth 20000 in
theorem gX12_one_X12_numbers : GoodIn wsX12_one (wsV RX12 87 RX12 yX12_numbers wsX12_numbers) := goodIn_app (goodIn_of _ (by decide +kernel)) ggX12_one_X12_numbers
set_option maxRecDepth 20000 in
theorem ggX12_one_X12_in : GoodIn wsX12_one wsX12_in := goodIn_r _ [21] (by decide +kernel) (by decide +kernel)
set_option maxRecDepth 20000 in
theorem gX12_one_X12_in : GoodIn wsX12_one (va_wsS RX12 66 yX12_in wsX12_in) := goodIn_app (goodIn_of _ (by decide +kernel)) ggX12_one_X12_in
theorem dX12_one_0 : decode cX12_one 0 = .ok (.aload_n 0, 1) := by decide +kernel
theorem dX12_one_1 : decode cX12_one 1 = .ok (.iconst 1, 1) := by decide +kernel
theorem dX12_one_2 : decode cX12_one 2 = .ok (.invokevirtual 87, 3) := by decide +kernel
theorem dX12_one_5 : decode cX12_one 5 = .ok (.ifCond .eq 17, 3) := by decide +kernel
theorem dX12_one_8 : decode cX12_one 8 = .ok (.aload_n 0, 1) := by decide +kernel
theorem dX12_one_9 : decode cX12_one 9 = .ok (.getfield 34, 3) := by decide +kernel
theorem dX12_one_12 : decode cX12_one 12 = .ok (.iconst 0, 1) := by decide +kernel
theorem dX12_one_13 : decode cX12_one 13 = .ok (.iaload, 1) := by decide +kernel
theorem dX12_one_14 : decode cX12_one 14 = .ok (.iload_n 2, 1) := by decide +kernel
theorem dX12_one_15 : decode cX12_one 15 = .ok (.iload_n 3, 1) := by decide +kernel
theorem dX12_one_16 : decode cX12_one 16 = .ok (.invokestatic 66, 3) := by decide +kernel
theorem dX12_one_19 : decode cX12_one 19 = .ok (.ifCond .ne 5, 3) := by decide +kernel
theorem dX12_one_22 : decode cX12_one 22 = .ok (.iconst 0, 1) := by decide +kernel
theorem dX12_one_23 : decode cX12_one 23 = .ok (.ireturn, 1) := by decide +kernel
theorem dX12_one_24 : decode cX12_one 24 = .ok (.aload_n 0, 1) := by decide +kernel
theorem dX12_one_25 : decode cX12_one 25 = .ok (.getfield 16, 3) := by decide +kernel
theorem dX12_one_28 : decode cX12_one 28 = .ok (.iload_n 1, 1) := by decide +kernel
theorem dX12_one_29 : decode cX12_one 29 = .ok (.aload_n 0, 1) := by decide +kernel
theorem dX12_one_30 : decode cX12_one 30 = .ok (.getfield 34, 3) := by decide +kernel
theorem dX12_one_33 : decode cX12_one 33 = .ok (.iconst 0, 1) := by decide +kernel
theorem dX12_one_34 : decode cX12_one 34 = .ok (.iaload, 1) := by decide +kernel
theorem dX12_one_35 : decode cX12_one 35 = .ok (.iastore, 1) := by decide +kernel
theorem dX12_one_36 : decode cX12_one 36 = .ok (.iconst 1, 1) := by decide +kernel
theorem dX12_one_37 : decode cX12_one 37 = .ok (.ireturn, 1) := by decide +kernel
set_option maxRecDepth 20000 in
theorem ggX12_crosses_X12_numbers : GoodIn wsX12_crosses wsX12_numbers := goodIn_r _ [7, 8, 1, 9, 10, 11, 6, 12, 13, 14, 15, 16, 17, 18, 19, 20, 21, 22, 23, 24, 25, 26, 27, 28, 29, 30, 31, 32, 33, 34, 35, 36, 37, 38, 39, 40, 41, 42, 43, 44, 45] (by decide +kernel) (by decide +kernel)
set_option maxRecDepth 20000 in
theorem gX12_crosses_X12_numbers : GoodIn wsX12_crosses (wsV RX12 87 RX12 yX12_numbers wsX12_numbers) := goodIn_app (goodIn_of _ (by decide +kernel)) ggX12_crosses_X12_numbers
theorem dX12_crosses_0 : decode cX12_crosses 0 = .ok (.aload_n 0, 1) := by decide +kernel
theorem dX12_crosses_1 : decode cX12_crosses 1 = .ok (.iconst 3, 1) := by decide +kernel
theorem dX12_crosses_2 : decode cX12_crosses 2 = .ok (.invokevirtual 87, 3) := by decide +kernel
theorem dX12_crosses_5 : decode cX12_crosses 5 = .ok (.ifCond .eq 59, 3) := by decide +kernel
theorem dX12_crosses_8 : decode cX12_crosses 8 = .ok (.aload_n 0, 1) := by decide +kernel
theorem dX12_crosses_9 : decode cX12_crosses 9 = .ok (.getfield 34, 3) := by decide +kernel
theorem dX12_crosses_12 : decode cX12_crosses 12 = .ok (.iconst 0, 1) := by decide +kernel
theorem dX12_crosses_13 : decode cX12_crosses 13 = .ok (.iaload, 1) := by decide +kernel
theorem dX12_crosses_14 : decode cX12_crosses 14 = .ok (.aload_n 0, 1) := by decide +kernel
theorem dX12_crosses_15 : decode cX12_crosses 15 = .ok (.getfield 16, 3) := by decide +kernel
theorem dX12_crosses_18 : decode cX12_crosses 18 = .ok (.iconst 0, 1) := by decide +kernel
theorem dX12_crosses_19 : decode cX12_crosses 19 = .ok (.iaload, 1) := by decide +kernel
theorem dX12_crosses_20 : decode cX12_crosses 20 = .ok (.if_icmp .ge 44, 3) := by decide +kernel
theorem dX12_crosses_23 : decode cX12_crosses 23 = .ok (.aload_n 0, 1) := by decide +kernel
theorem dX12_crosses_24 : decode cX12_crosses 24 = .ok (.getfield 34, 3) := by decide +kernel
theorem dX12_crosses_27 : decode cX12_crosses 27 = .ok (.iconst 1, 1) := by decide +kernel
theorem dX12_crosses_28 : decode cX12_crosses 28 = .ok (.iaload, 1) := by decide +kernel
theorem dX12_crosses_29 : decode cX12_crosses 29 = .ok (.aload_n 0, 1) := by decide +kernel
theorem dX12_crosses_30 : decode cX12_crosses 30 = .ok (.getfield 16, 3) := by decide +kernel
theorem dX12_crosses_33 : decode cX12_crosses 33 = .ok (.iconst 0, 1) := by decide +kernel
theorem dX12_crosses_34 : decode cX12_crosses 34 = .ok (.iaload, 1) := by decide +kernel
theorem dX12_crosses_35 : decode cX12_crosses 35 = .ok (.if_icmp .ge 29, 3) := by decide +kernel
theorem dX12_crosses_38 : decode cX12_crosses 38 = .ok (.aload_n 0, 1) := by decide +kernel
theorem dX12_crosses_39 : decode cX12_crosses 39 = .ok (.getfield 34, 3) := by decide +kernel
theorem dX12_crosses_42 : decode cX12_crosses 42 = .ok (.iconst 0, 1) := by decide +kernel
theorem dX12_crosses_43 : decode cX12_crosses 43 = .ok (.iaload, 1) := by decide +kernel
theorem dX12_crosses_44 : decode cX12_crosses 44 = .ok (.aload_n 0, 1) := by decide +kernel
theorem dX12_crosses_45 : decode cX12_crosses 45 = .ok (.getfield 34, 3) := by decide +kernel
theorem dX12_crosses_48 : decode cX12_crosses 48 = .ok (.iconst 1, 1) := by decide +kernel
theorem dX12_crosses_49 : decode cX12_crosses 49 = .ok (.iaload, 1) := by decide +kernel
theorem dX12_crosses_50 : decode cX12_crosses 50 = .ok (.if_icmp .eq 14, 3) := by decide +kernel
theorem dX12_crosses_53 : decode cX12_crosses 53 = .ok (.aload_n 0, 1) := by decide +kernel
theorem dX12_crosses_54 : decode cX12_crosses 54 = .ok (.getfield 34, 3) := by decide +kernel
theorem dX12_crosses_57 : decode cX12_crosses 57 = .ok (.iconst 2, 1) := by decide +kernel
theorem dX12_crosses_58 : decode cX12_crosses 58 = .ok (.iaload, 1) := by decide +kernel
theorem dX12_crosses_59 : decode cX12_crosses 59 = .ok (.bipush 60, 2) := by decide +kernel
theorem dX12_crosses_61 : decode cX12_crosses 61 = .ok (.if_icmp .le 5, 3) := by decide +kernel
theorem dX12_crosses_64 : decode cX12_crosses 64 = .ok (.iconst 0, 1) := by decide +kernel
theorem dX12_crosses_65 : decode cX12_crosses 65 = .ok (.ireturn, 1) := by decide +kernel
theorem dX12_crosses_66 : decode cX12_crosses 66 = .ok (.aload_n 0, 1) := by decide +kernel
theorem dX12_crosses_67 : decode cX12_crosses 67 = .ok (.getfield 16, 3) := by decide +kernel
theorem dX12_crosses_70 : decode cX12_crosses 70 = .ok (.iconst 5, 1) := by decide +kernel
theorem dX12_crosses_71 : decode cX12_crosses 71 = .ok (.iconst 5, 1) := by decide +kernel
theorem dX12_crosses_72 : decode cX12_crosses 72 = .ok (.aload_n 0, 1) := by decide +kernel
theorem dX12_crosses_73 : decode cX12_crosses 73 = .ok (.getfield 34, 3) := by decide +kernel
theorem dX12_crosses_76 : decode cX12_crosses 76 = .ok (.iconst 0, 1) := by decide +kernel
theorem dX12_crosses_77 : decode cX12_crosses 77 = .ok (.iaload, 1) := by decide +kernel
theorem dX12_crosses_78 : decode cX12_crosses 78 = .ok (.imul, 1) := by decide +kernel
theorem dX12_crosses_79 : decode cX12_crosses 79 = .ok (.iadd, 1) := by decide +kernel
theorem dX12_crosses_80 : decode cX12_crosses 80 = .ok (.aload_n 0, 1) := by decide +kernel
theorem dX12_crosses_81 : decode cX12_crosses 81 = .ok (.getfield 34, 3) := by decide +kernel
theorem dX12_crosses_84 : decode cX12_crosses 84 = .ok (.iconst 1, 1) := by decide +kernel
theorem dX12_crosses_85 : decode cX12_crosses 85 = .ok (.iaload, 1) := by decide +kernel
theorem dX12_crosses_86 : decode cX12_crosses 86 = .ok (.iadd, 1) := by decide +kernel
theorem dX12_crosses_87 : decode cX12_crosses 87 = .ok (.aload_n 0, 1) := by decide +kernel
theorem dX12_crosses_88 : decode cX12_crosses 88 = .ok (.getfield 34, 3) := by decide +kernel
theorem dX12_crosses_91 : decode cX12_crosses 91 = .ok (.iconst 2, 1) := by decide +kernel
theorem dX12_crosses_92 : decode cX12_crosses 92 = .ok (.iaload, 1) := by decide +kernel
theorem dX12_crosses_93 : decode cX12_crosses 93 = .ok (.iastore, 1) := by decide +kernel
theorem dX12_crosses_94 : decode cX12_crosses 94 = .ok (.aload_n 0, 1) := by decide +kernel
theorem dX12_crosses_95 : decode cX12_crosses 95 = .ok (.getfield 16, 3) := by decide +kernel
theorem dX12_crosses_98 : decode cX12_crosses 98 = .ok (.iconst 5, 1) := by decide +kernel
theorem dX12_crosses_99 : decode cX12_crosses 99 = .ok (.iconst 5, 1) := by decide +kernel
theorem dX12_crosses_100 : decode cX12_crosses 100 = .ok (.aload_n 0, 1) := by decide +kernel
theorem dX12_crosses_101 : decode cX12_crosses 101 = .ok (.getfield 34, 3) := by decide +kernel
theorem dX12_crosses_104 : decode cX12_crosses 104 = .ok (.iconst 1, 1) := by decide +kernel
theorem dX12_crosses_105 : decode cX12_crosses 105 = .ok (.iaload, 1) := by decide +kernel
theorem dX12_crosses_106 : decode cX12_crosses 106 = .ok (.imul, 1) := by decide +kernel
theorem dX12_crosses_107 : decode cX12_crosses 107 = .ok (.iadd, 1) := by decide +kernel
theorem dX12_crosses_108 : decode cX12_crosses 108 = .ok (.aload_n 0, 1) := by decide +kernel
theorem dX12_crosses_109 : decode cX12_crosses 109 = .ok (.getfield 34, 3) := by decide +kernel
theorem dX12_crosses_112 : decode cX12_crosses 112 = .ok (.iconst 0, 1) := by decide +kernel
theorem dX12_crosses_113 : decode cX12_crosses 113 = .ok (.iaload, 1) := by decide +kernel
theorem dX12_crosses_114 : decode cX12_crosses 114 = .ok (.iadd, 1) := by decide +kernel
theorem dX12_crosses_115 : decode cX12_crosses 115 = .ok (.aload_n 0, 1) := by decide +kernel
theorem dX12_crosses_116 : decode cX12_crosses 116 = .ok (.getfield 34, 3) := by decide +kernel
theorem dX12_crosses_119 : decode cX12_crosses 119 = .ok (.iconst 2, 1) := by decide +kernel
theorem dX12_crosses_120 : decode cX12_crosses 120 = .ok (.iaload, 1) := by decide +kernel
theorem dX12_crosses_121 : decode cX12_crosses 121 = .ok (.iastore, 1) := by decide +kernel
theorem dX12_crosses_122 : decode cX12_crosses 122 = .ok (.aload_n 0, 1) := by decide +kernel
theorem dX12_crosses_123 : decode cX12_crosses 123 = .ok (.getfield 16, 3) := by decide +kernel
theorem dX12_crosses_126 : decode cX12_crosses 126 = .ok (.bipush 70, 2) := by decide +kernel
theorem dX12_crosses_128 : decode cX12_crosses 128 = .ok (.iconst 1, 1) := by decide +kernel
theorem dX12_crosses_129 : decode cX12_crosses 129 = .ok (.iastore, 1) := by decide +kernel
theorem dX12_crosses_130 : decode cX12_crosses 130 = .ok (.iconst 1, 1) := by decide +kernel
theorem dX12_crosses_131 : decode cX12_crosses 131 = .ok (.ireturn, 1) := by decide +kernel
theorem dX12_isTwice_0 : decode cX12_isTwice 0 = .ok (.iconst 0, 1) := by decide +kernel
theorem dX12_isTwice_1 : decode cX12_isTwice 1 = .ok (.istore_n 2, 1) := by decide +kernel
theorem dX12_isTwice_2 : decode cX12_isTwice 2 = .ok (.iconst 0, 1) := by decide +kernel
theorem dX12_isTwice_3 : decode cX12_isTwice 3 = .ok (.istore_n 3, 1) := by decide +kernel
theorem dX12_isTwice_4 : decode cX12_isTwice 4 = .ok (.iload_n 3, 1) := by decide +kernel
theorem dX12_isTwice_5 : decode cX12_isTwice 5 = .ok (.iload_n 1, 1) := by decide +kernel
theorem dX12_isTwice_6 : decode cX12_isTwice 6 = .ok (.if_icmp .ge 118, 3) := by decide +kernel
theorem dX12_isTwice_9 : decode cX12_isTwice 9 = .ok (.aload_n 0, 1) := by decide +kernel
theorem dX12_isTwice_10 : decode cX12_isTwice 10 = .ok (.getfield 16, 3) := by decide +kernel
theorem dX12_isTwice_13 : decode cX12_isTwice 13 = .ok (.bipush 30, 2) := by decide +kernel
theorem dX12_isTwice_15 : decode cX12_isTwice 15 = .ok (.iload_n 3, 1) := by decide +kernel
theorem dX12_isTwice_16 : decode cX12_isTwice 16 = .ok (.iadd, 1) := by decide +kernel
theorem dX12_isTwice_17 : decode cX12_isTwice 17 = .ok (.iaload, 1) := by decide +kernel
theorem dX12_isTwice_18 : decode cX12_isTwice 18 = .ok (.aload_n 0, 1) := by decide +kernel
theorem dX12_isTwice_19 : decode cX12_isTwice 19 = .ok (.getfield 16, 3) := by decide +kernel
theorem dX12_isTwice_22 : decode cX12_isTwice 22 = .ok (.bipush 30, 2) := by decide +kernel
theorem dX12_isTwice_24 : decode cX12_isTwice 24 = .ok (.iload_n 1, 1) := by decide +kernel
theorem dX12_isTwice_25 : decode cX12_isTwice 25 = .ok (.iadd, 1) := by decide +kernel
theorem dX12_isTwice_26 : decode cX12_isTwice 26 = .ok (.iaload, 1) := by decide +kernel
theorem dX12_isTwice_27 : decode cX12_isTwice 27 = .ok (.if_icmp .ne 7, 3) := by decide +kernel
theorem dX12_isTwice_30 : decode cX12_isTwice 30 = .ok (.iconst 1, 1) := by decide +kernel
theorem dX12_isTwice_31 : decode cX12_isTwice 31 = .ok (.goto 4, 3) := by decide +kernel
theorem dX12_isTwice_34 : decode cX12_isTwice 34 = .ok (.iconst 0, 1) := by decide +kernel
theorem dX12_isTwice_35 : decode cX12_isTwice 35 = .ok (.istore 4, 2) := by decide +kernel
theorem dX12_isTwice_37 : decode cX12_isTwice 37 = .ok (.iconst 0, 1) := by decide +kernel
theorem dX12_isTwice_38 : decode cX12_isTwice 38 = .ok (.istore 5, 2) := by decide +kernel
theorem dX12_isTwice_40 : decode cX12_isTwice 40 = .ok (.iload 5, 2) := by decide +kernel
theorem dX12_isTwice_42 : decode cX12_isTwice 42 = .ok (.aload_n 0, 1) := by decide +kernel
theorem dX12_isTwice_43 : decode cX12_isTwice 43 = .ok (.getfield 16, 3) := by decide +kernel
theorem dX12_isTwice_46 : decode cX12_isTwice 46 = .ok (.bipush 30, 2) := by decide +kernel
theorem dX12_isTwice_48 : decode cX12_isTwice 48 = .ok (.iload_n 1, 1) := by decide +kernel
theorem dX12_isTwice_49 : decode cX12_isTwice 49 = .ok (.iadd, 1) := by decide +kernel
theorem dX12_isTwice_50 : decode cX12_isTwice 50 = .ok (.iaload, 1) := by decide +kernel
theorem dX12_isTwice_51 : decode cX12_isTwice 51 = .ok (.if_icmp .ge 52, 3) := by decide +kernel
theorem dX12_isTwice_54 : decode cX12_isTwice 54 = .ok (.iload 4, 2) := by decide +kernel
theorem dX12_isTwice_56 : decode cX12_isTwice 56 = .ok (.ifCond .eq 38, 3) := by decide +kernel
theorem dX12_isTwice_59 : decode cX12_isTwice 59 = .ok (.aload_n 0, 1) := by decide +kernel
theorem dX12_isTwice_60 : decode cX12_isTwice 60 = .ok (.getfield 16, 3) := by decide +kernel
theorem dX12_isTwice_63 : decode cX12_isTwice 63 = .ok (.bipush 38, 2) := by decide +kernel
theorem dX12_isTwice_65 : decode cX12_isTwice 65 = .ok (.iconst 4, 1) := by decide +kernel
theorem dX12_isTwice_66 : decode cX12_isTwice 66 = .ok (.iload_n 3, 1) := by decide +kernel
theorem dX12_isTwice_67 : decode cX12_isTwice 67 = .ok (.imul, 1) := by decide +kernel
theorem dX12_isTwice_68 : decode cX12_isTwice 68 = .ok (.iadd, 1) := by decide +kernel
theorem dX12_isTwice_69 : decode cX12_isTwice 69 = .ok (.iload 5, 2) := by decide +kernel
theorem dX12_isTwice_71 : decode cX12_isTwice 71 = .ok (.iadd, 1) := by decide +kernel
theorem dX12_isTwice_72 : decode cX12_isTwice 72 = .ok (.iaload, 1) := by decide +kernel
theorem dX12_isTwice_73 : decode cX12_isTwice 73 = .ok (.aload_n 0, 1) := by decide +kernel
theorem dX12_isTwice_74 : decode cX12_isTwice 74 = .ok (.getfield 16, 3) := by decide +kernel
theorem dX12_isTwice_77 : decode cX12_isTwice 77 = .ok (.bipush 38, 2) := by decide +kernel
theorem dX12_isTwice_79 : decode cX12_isTwice 79 = .ok (.iconst 4, 1) := by decide +kernel
theorem dX12_isTwice_80 : decode cX12_isTwice 80 = .ok (.iload_n 1, 1) := by decide +kernel
theorem dX12_isTwice_81 : decode cX12_isTwice 81 = .ok (.imul, 1) := by decide +kernel
theorem dX12_isTwice_82 : decode cX12_isTwice 82 = .ok (.iadd, 1) := by decide +kernel
theorem dX12_isTwice_83 : decode cX12_isTwice 83 = .ok (.iload 5, 2) := by decide +kernel
theorem dX12_isTwice_85 : decode cX12_isTwice 85 = .ok (.iadd, 1) := by decide +kernel
theorem dX12_isTwice_86 : decode cX12_isTwice 86 = .ok (.iaload, 1) := by decide +kernel
theorem dX12_isTwice_87 : decode cX12_isTwice 87 = .ok (.if_icmp .ne 7, 3) := by decide +kernel
theorem dX12_isTwice_90 : decode cX12_isTwice 90 = .ok (.iconst 1, 1) := by decide +kernel
theorem dX12_isTwice_91 : decode cX12_isTwice 91 = .ok (.goto 4, 3) := by decide +kernel
theorem dX12_isTwice_94 : decode cX12_isTwice 94 = .ok (.iconst 0, 1) := by decide +kernel
theorem dX12_isTwice_95 : decode cX12_isTwice 95 = .ok (.istore 4, 2) := by decide +kernel
theorem dX12_isTwice_97 : decode cX12_isTwice 97 = .ok (.iinc 5 1, 3) := by decide +kernel
theorem dX12_isTwice_100 : decode cX12_isTwice 100 = .ok (.goto (-60), 3) := by decide +kernel
theorem dX12_isTwice_103 : decode cX12_isTwice 103 = .ok (.iload_n 2, 1) := by decide +kernel
theorem dX12_isTwice_104 : decode cX12_isTwice 104 = .ok (.ifCond .ne 8, 3) := by decide +kernel
theorem dX12_isTwice_107 : decode cX12_isTwice 107 = .ok (.iload 4, 2) := by decide +kernel
theorem dX12_isTwice_109 : decode cX12_isTwice 109 = .ok (.ifCond .eq 7, 3) := by decide +kernel
theorem dX12_isTwice_112 : decode cX12_isTwice 112 = .ok (.iconst 1, 1) := by decide +kernel
theorem dX12_isTwice_113 : decode cX12_isTwice 113 = .ok (.goto 4, 3) := by decide +kernel
theorem dX12_isTwice_116 : decode cX12_isTwice 116 = .ok (.iconst 0, 1) := by decide +kernel
theorem dX12_isTwice_117 : decode cX12_isTwice 117 = .ok (.istore_n 2, 1) := by decide +kernel
theorem dX12_isTwice_118 : decode cX12_isTwice 118 = .ok (.iinc 3 1, 3) := by decide +kernel
theorem dX12_isTwice_121 : decode cX12_isTwice 121 = .ok (.goto (-117), 3) := by decide +kernel
theorem dX12_isTwice_124 : decode cX12_isTwice 124 = .ok (.iload_n 2, 1) := by decide +kernel
theorem dX12_isTwice_125 : decode cX12_isTwice 125 = .ok (.ireturn, 1) := by decide +kernel
set_option maxRecDepth 20000 in
theorem ggX12_words_X12_isFigure : GoodIn wsX12_words wsX12_isFigure := goodIn_r _ [7, 2, 8, 9, 10, 6, 11, 12, 13, 14, 15, 16, 21, 22, 23, 24, 25, 26, 27, 28, 29, 30, 31, 32, 33, 34, 35, 36, 37, 38, 39, 40, 41, 42, 43, 44] (by decide +kernel) (by decide +kernel)
set_option maxRecDepth 20000 in
theorem gX12_words_X12_isFigure : GoodIn wsX12_words (wsV RX12 83 RX12 yX12_isFigure wsX12_isFigure) := goodIn_app (goodIn_of _ (by decide +kernel)) ggX12_words_X12_isFigure
set_option maxRecDepth 20000 in
theorem ggX12_words_X12_byteAt : GoodIn wsX12_words wsX12_byteAt := goodIn_r _ [11, 12, 13, 21, 22, 23, 24, 25, 26, 27, 28, 29, 30, 31, 32, 33, 34, 35, 36, 37, 38, 39, 40, 41, 42, 43, 44] (by decide +kernel) (by decide +kernel)
set_option maxRecDepth 20000 in
theorem gX12_words_X12_byteAt : GoodIn wsX12_words (wsV RX12 79 RX12 yX12_byteAt wsX12_byteAt) := goodIn_app (goodIn_of _ (by decide +kernel)) ggX12_words_X12_byteAt
set_option maxRecDepth 20000 in
theorem ggX12_words_X12_isTwice : GoodIn wsX12_words wsX12_isTwice := goodIn_r _ [20, 1, 21, 22, 23, 24, 25, 26, 27, 28, 29, 30, 31, 32, 33, 34, 35, 36, 37, 38, 39, 40, 41, 42, 43, 44] (by decide +kernel) (by decide +kernel)
set_option maxRecDepth 20000 in
theorem gX12_words_X12_isTwice : GoodIn wsX12_words (wsV RX12 90 RX12 yX12_isTwice wsX12_isTwice) := goodIn_app (goodIn_of _ (by decide +kernel)) ggX12_words_X12_isTwice
theorem dX12_words_0 : decode cX12_words 0 = .ok (.aload_n 0, 1) := by decide +kernel
theorem dX12_words_1 : decode cX12_words 1 = .ok (.getfield 16, 3) := by decide +kernel
theorem dX12_words_4 : decode cX12_words 4 = .ok (.iconst 4, 1) := by decide +kernel
theorem dX12_words_5 : decode cX12_words 5 = .ok (.iaload, 1) := by decide +kernel
theorem dX12_words_6 : decode cX12_words 6 = .ok (.istore_n 1, 1) := by decide +kernel
theorem dX12_words_7 : decode cX12_words 7 = .ok (.iconst 0, 1) := by decide +kernel
theorem dX12_words_8 : decode cX12_words 8 = .ok (.istore_n 2, 1) := by decide +kernel
theorem dX12_words_9 : decode cX12_words 9 = .ok (.iload_n 1, 1) := by decide +kernel
theorem dX12_words_10 : decode cX12_words 10 = .ok (.bipush 8, 2) := by decide +kernel
theorem dX12_words_12 : decode cX12_words 12 = .ok (.if_icmp .ge 57, 3) := by decide +kernel
theorem dX12_words_15 : decode cX12_words 15 = .ok (.iload_n 2, 1) := by decide +kernel
theorem dX12_words_16 : decode cX12_words 16 = .ok (.iconst 4, 1) := by decide +kernel
theorem dX12_words_17 : decode cX12_words 17 = .ok (.if_icmp .ge 52, 3) := by decide +kernel
theorem dX12_words_20 : decode cX12_words 20 = .ok (.aload_n 0, 1) := by decide +kernel
theorem dX12_words_21 : decode cX12_words 21 = .ok (.bipush 7, 2) := by decide +kernel
theorem dX12_words_23 : decode cX12_words 23 = .ok (.invokevirtual 83, 3) := by decide +kernel
theorem dX12_words_26 : decode cX12_words 26 = .ok (.ifCond .eq 43, 3) := by decide +kernel
theorem dX12_words_29 : decode cX12_words 29 = .ok (.aload_n 0, 1) := by decide +kernel
theorem dX12_words_30 : decode cX12_words 30 = .ok (.getfield 16, 3) := by decide +kernel
theorem dX12_words_33 : decode cX12_words 33 = .ok (.bipush 38, 2) := by decide +kernel
theorem dX12_words_35 : decode cX12_words 35 = .ok (.iconst 4, 1) := by decide +kernel
theorem dX12_words_36 : decode cX12_words 36 = .ok (.iload_n 1, 1) := by decide +kernel
theorem dX12_words_37 : decode cX12_words 37 = .ok (.imul, 1) := by decide +kernel
theorem dX12_words_38 : decode cX12_words 38 = .ok (.iadd, 1) := by decide +kernel
theorem dX12_words_39 : decode cX12_words 39 = .ok (.iload_n 2, 1) := by decide +kernel
theorem dX12_words_40 : decode cX12_words 40 = .ok (.iadd, 1) := by decide +kernel
theorem dX12_words_41 : decode cX12_words 41 = .ok (.aload_n 0, 1) := by decide +kernel
theorem dX12_words_42 : decode cX12_words 42 = .ok (.aload_n 0, 1) := by decide +kernel
theorem dX12_words_43 : decode cX12_words 43 = .ok (.getfield 76, 3) := by decide +kernel
theorem dX12_words_46 : decode cX12_words 46 = .ok (.invokevirtual 79, 3) := by decide +kernel
theorem dX12_words_49 : decode cX12_words 49 = .ok (.bipush 48, 2) := by decide +kernel
theorem dX12_words_51 : decode cX12_words 51 = .ok (.isub, 1) := by decide +kernel
theorem dX12_words_52 : decode cX12_words 52 = .ok (.iastore, 1) := by decide +kernel
theorem dX12_words_53 : decode cX12_words 53 = .ok (.aload_n 0, 1) := by decide +kernel
theorem dX12_words_54 : decode cX12_words 54 = .ok (.dup, 1) := by decide +kernel
theorem dX12_words_55 : decode cX12_words 55 = .ok (.getfield 76, 3) := by decide +kernel
theorem dX12_words_58 : decode cX12_words 58 = .ok (.iconst 1, 1) := by decide +kernel
theorem dX12_words_59 : decode cX12_words 59 = .ok (.iadd, 1) := by decide +kernel
theorem dX12_words_60 : decode cX12_words 60 = .ok (.putfield 76, 3) := by decide +kernel
theorem dX12_words_63 : decode cX12_words 63 = .ok (.iinc 2 1, 3) := by decide +kernel
theorem dX12_words_66 : decode cX12_words 66 = .ok (.goto (-57), 3) := by decide +kernel
theorem dX12_words_69 : decode cX12_words 69 = .ok (.iload_n 2, 1) := by decide +kernel
theorem dX12_words_70 : decode cX12_words 70 = .ok (.ifCond .eq 16, 3) := by decide +kernel
theorem dX12_words_73 : decode cX12_words 73 = .ok (.aload_n 0, 1) := by decide +kernel
theorem dX12_words_74 : decode cX12_words 74 = .ok (.aload_n 0, 1) := by decide +kernel
theorem dX12_words_75 : decode cX12_words 75 = .ok (.getfield 76, 3) := by decide +kernel
theorem dX12_words_78 : decode cX12_words 78 = .ok (.invokevirtual 79, 3) := by decide +kernel
theorem dX12_words_81 : decode cX12_words 81 = .ok (.bipush 59, 2) := by decide +kernel
theorem dX12_words_83 : decode cX12_words 83 = .ok (.if_icmp .eq 5, 3) := by decide +kernel
theorem dX12_words_86 : decode cX12_words 86 = .ok (.iconst 0, 1) := by decide +kernel
theorem dX12_words_87 : decode cX12_words 87 = .ok (.ireturn, 1) := by decide +kernel
theorem dX12_words_88 : decode cX12_words 88 = .ok (.aload_n 0, 1) := by decide +kernel
theorem dX12_words_89 : decode cX12_words 89 = .ok (.dup, 1) := by decide +kernel
theorem dX12_words_90 : decode cX12_words 90 = .ok (.getfield 76, 3) := by decide +kernel
theorem dX12_words_93 : decode cX12_words 93 = .ok (.iconst 1, 1) := by decide +kernel
theorem dX12_words_94 : decode cX12_words 94 = .ok (.iadd, 1) := by decide +kernel
theorem dX12_words_95 : decode cX12_words 95 = .ok (.putfield 76, 3) := by decide +kernel
theorem dX12_words_98 : decode cX12_words 98 = .ok (.aload_n 0, 1) := by decide +kernel
theorem dX12_words_99 : decode cX12_words 99 = .ok (.getfield 16, 3) := by decide +kernel
theorem dX12_words_102 : decode cX12_words 102 = .ok (.bipush 30, 2) := by decide +kernel
theorem dX12_words_104 : decode cX12_words 104 = .ok (.iload_n 1, 1) := by decide +kernel
theorem dX12_words_105 : decode cX12_words 105 = .ok (.iadd, 1) := by decide +kernel
theorem dX12_words_106 : decode cX12_words 106 = .ok (.iload_n 2, 1) := by decide +kernel
theorem dX12_words_107 : decode cX12_words 107 = .ok (.iastore, 1) := by decide +kernel
theorem dX12_words_108 : decode cX12_words 108 = .ok (.aload_n 0, 1) := by decide +kernel
theorem dX12_words_109 : decode cX12_words 109 = .ok (.getfield 16, 3) := by decide +kernel
theorem dX12_words_112 : decode cX12_words 112 = .ok (.iconst 4, 1) := by decide +kernel
theorem dX12_words_113 : decode cX12_words 113 = .ok (.dup2, 1) := by decide +kernel
theorem dX12_words_114 : decode cX12_words 114 = .ok (.iaload, 1) := by decide +kernel
theorem dX12_words_115 : decode cX12_words 115 = .ok (.iconst 1, 1) := by decide +kernel
theorem dX12_words_116 : decode cX12_words 116 = .ok (.iadd, 1) := by decide +kernel
theorem dX12_words_117 : decode cX12_words 117 = .ok (.iastore, 1) := by decide +kernel
theorem dX12_words_118 : decode cX12_words 118 = .ok (.aload_n 0, 1) := by decide +kernel
theorem dX12_words_119 : decode cX12_words 119 = .ok (.iload_n 1, 1) := by decide +kernel
theorem dX12_words_120 : decode cX12_words 120 = .ok (.invokevirtual 90, 3) := by decide +kernel
theorem dX12_words_123 : decode cX12_words 123 = .ok (.ifCond .ne 7, 3) := by decide +kernel
theorem dX12_words_126 : decode cX12_words 126 = .ok (.iconst 1, 1) := by decide +kernel
theorem dX12_words_127 : decode cX12_words 127 = .ok (.goto 4, 3) := by decide +kernel
theorem dX12_words_130 : decode cX12_words 130 = .ok (.iconst 0, 1) := by decide +kernel
theorem dX12_words_131 : decode cX12_words 131 = .ok (.ireturn, 1) := by decide +kernel
set_option maxRecDepth 20000 in
theorem ggX12_item_X12_byteAt : GoodIn wsX12_item wsX12_byteAt := goodIn_r _ [7, 8, 9, 38, 39, 40, 41, 42, 43, 44, 45, 46, 47, 48, 49, 50, 51, 52, 53, 54, 55, 56, 57, 58, 59, 60, 61] (by decide +kernel) (by decide +kernel)
set_option maxRecDepth 20000 in
theorem gX12_item_X12_byteAt : GoodIn wsX12_item (wsV RX12 79 RX12 yX12_byteAt wsX12_byteAt) := goodIn_app (goodIn_of _ (by decide +kernel)) ggX12_item_X12_byteAt
set_option maxRecDepth 20000 in
theorem ggX12_item_X12_one : GoodIn wsX12_item wsX12_one := goodIn_r _ [13, 14, 2, 15, 16, 17, 6, 18, 1, 19, 20, 21, 22, 3, 4, 5, 7, 8, 9, 23, 24, 25, 38, 39, 40, 41, 42, 43, 44, 45, 46, 47, 48, 49, 50, 51, 52, 53, 54, 55, 56, 57, 58, 59, 60, 61] (by decide +kernel) (by decide +kernel)
set_option maxRecDepth 20000 in
theorem gX12_item_X12_one : GoodIn wsX12_item (wsV RX12 93 RX12 yX12_one wsX12_one) := goodIn_app (goodIn_of _ (by decide +kernel)) ggX12_item_X12_one
set_option maxRecDepth 20000 in
theorem ggX12_item_X12_crosses : GoodIn wsX12_item wsX12_crosses := goodIn_r _ [29, 14, 2, 15, 16, 17, 6, 18, 1, 19, 20, 21, 22, 3, 4, 5, 7, 8, 9, 23, 24, 25, 38, 39, 40, 41, 42, 43, 44, 45, 46, 47, 48, 49, 50, 51, 52, 53, 54, 55, 56, 57, 58, 59, 60, 61] (by decide +kernel) (by decide +kernel)
set_option maxRecDepth 20000 in
theorem gX12_item_X12_crosses : GoodIn wsX12_item (wsV RX12 96 RX12 yX12_crosses wsX12_crosses) := goodIn_app (goodIn_of _ (by decide +kernel)) ggX12_item_X12_crosses
set_option maxRecDepth 20000 in
theorem ggX12_item_X12_words : GoodIn wsX12_item wsX12_words := goodIn_r _ [33, 2, 1, 19, 20, 21, 6, 22, 3, 4, 5, 7, 8, 9, 23, 24, 25, 34, 35, 36, 37, 38, 39, 40, 41, 42, 43, 44, 45, 46, 47, 48, 49, 50, 51, 52, 53, 54, 55, 56, 57, 58, 59, 60, 61] (by decide +kernel) (by decide +kernel)
set_option maxRecDepth 20000 in
theorem gX12_item_X12_words : GoodIn wsX12_item (wsV RX12 100 RX12 yX12_words wsX12_words) := goodIn_app (goodIn_of _ (by decide +kernel)) ggX12_item_X12_words
theorem dX12_item_0 : decode cX12_item 0 = .ok (.aload_n 0, 1) := by decide +kernel
theorem dX12_item_1 : decode cX12_item 1 = .ok (.aload_n 0, 1) := by decide +kernel
theorem dX12_item_2 : decode cX12_item 2 = .ok (.getfield 76, 3) := by decide +kernel
theorem dX12_item_5 : decode cX12_item 5 = .ok (.invokevirtual 79, 3) := by decide +kernel
theorem dX12_item_8 : decode cX12_item 8 = .ok (.istore_n 1, 1) := by decide +kernel
theorem dX12_item_9 : decode cX12_item 9 = .ok (.aload_n 0, 1) := by decide +kernel
theorem dX12_item_10 : decode cX12_item 10 = .ok (.dup, 1) := by decide +kernel
theorem dX12_item_11 : decode cX12_item 11 = .ok (.getfield 76, 3) := by decide +kernel
theorem dX12_item_14 : decode cX12_item 14 = .ok (.iconst 1, 1) := by decide +kernel
theorem dX12_item_15 : decode cX12_item 15 = .ok (.iadd, 1) := by decide +kernel
theorem dX12_item_16 : decode cX12_item 16 = .ok (.putfield 76, 3) := by decide +kernel
theorem dX12_item_19 : decode cX12_item 19 = .ok (.iload_n 1, 1) := by decide +kernel
theorem dX12_item_20 : decode cX12_item 20 = .ok (.tableswitch 154 102 120 #[145, 154, 123, 154, 154, 154, 132, 154, 154, 154, 92, 154, 154, 154, 154, 154, 154, 140, 118], 92) := by decide +kernel
theorem dX12_item_112 : decode cX12_item 112 = .ok (.aload_n 0, 1) := by decide +kernel
theorem dX12_item_113 : decode cX12_item 113 = .ok (.getfield 16, 3) := by decide +kernel
theorem dX12_item_116 : decode cX12_item 116 = .ok (.bipush 70, 2) := by decide +kernel
theorem dX12_item_118 : decode cX12_item 118 = .ok (.iaload, 1) := by decide +kernel
theorem dX12_item_119 : decode cX12_item 119 = .ok (.ifCond .ne 17, 3) := by decide +kernel
theorem dX12_item_122 : decode cX12_item 122 = .ok (.aload_n 0, 1) := by decide +kernel
theorem dX12_item_123 : decode cX12_item 123 = .ok (.iconst 0, 1) := by decide +kernel
theorem dX12_item_124 : decode cX12_item 124 = .ok (.iconst 1, 1) := by decide +kernel
theorem dX12_item_125 : decode cX12_item 125 = .ok (.iconst 5, 1) := by decide +kernel
theorem dX12_item_126 : decode cX12_item 126 = .ok (.invokevirtual 93, 3) := by decide +kernel
theorem dX12_item_129 : decode cX12_item 129 = .ok (.ifCond .eq 7, 3) := by decide +kernel
theorem dX12_item_132 : decode cX12_item 132 = .ok (.iconst 1, 1) := by decide +kernel
theorem dX12_item_133 : decode cX12_item 133 = .ok (.goto 4, 3) := by decide +kernel
theorem dX12_item_136 : decode cX12_item 136 = .ok (.iconst 0, 1) := by decide +kernel
theorem dX12_item_137 : decode cX12_item 137 = .ok (.ireturn, 1) := by decide +kernel
theorem dX12_item_138 : decode cX12_item 138 = .ok (.aload_n 0, 1) := by decide +kernel
theorem dX12_item_139 : decode cX12_item 139 = .ok (.invokevirtual 96, 3) := by decide +kernel
theorem dX12_item_142 : decode cX12_item 142 = .ok (.ireturn, 1) := by decide +kernel
theorem dX12_item_143 : decode cX12_item 143 = .ok (.aload_n 0, 1) := by decide +kernel
theorem dX12_item_144 : decode cX12_item 144 = .ok (.iconst 1, 1) := by decide +kernel
theorem dX12_item_145 : decode cX12_item 145 = .ok (.iconst 1, 1) := by decide +kernel
theorem dX12_item_146 : decode cX12_item 146 = .ok (.bipush 60, 2) := by decide +kernel
theorem dX12_item_148 : decode cX12_item 148 = .ok (.invokevirtual 93, 3) := by decide +kernel
theorem dX12_item_151 : decode cX12_item 151 = .ok (.ireturn, 1) := by decide +kernel
theorem dX12_item_152 : decode cX12_item 152 = .ok (.aload_n 0, 1) := by decide +kernel
theorem dX12_item_153 : decode cX12_item 153 = .ok (.iconst 2, 1) := by decide +kernel
theorem dX12_item_154 : decode cX12_item 154 = .ok (.iconst 0, 1) := by decide +kernel
theorem dX12_item_155 : decode cX12_item 155 = .ok (.iconst 2, 1) := by decide +kernel
theorem dX12_item_156 : decode cX12_item 156 = .ok (.invokevirtual 93, 3) := by decide +kernel
theorem dX12_item_159 : decode cX12_item 159 = .ok (.ireturn, 1) := by decide +kernel
theorem dX12_item_160 : decode cX12_item 160 = .ok (.aload_n 0, 1) := by decide +kernel
theorem dX12_item_161 : decode cX12_item 161 = .ok (.invokevirtual 100, 3) := by decide +kernel
theorem dX12_item_164 : decode cX12_item 164 = .ok (.ireturn, 1) := by decide +kernel
theorem dX12_item_165 : decode cX12_item 165 = .ok (.aload_n 0, 1) := by decide +kernel
theorem dX12_item_166 : decode cX12_item 166 = .ok (.iconst 3, 1) := by decide +kernel
theorem dX12_item_167 : decode cX12_item 167 = .ok (.iconst 2, 1) := by decide +kernel
theorem dX12_item_168 : decode cX12_item 168 = .ok (.bipush 8, 2) := by decide +kernel
theorem dX12_item_170 : decode cX12_item 170 = .ok (.invokevirtual 93, 3) := by decide +kernel
theorem dX12_item_173 : decode cX12_item 173 = .ok (.ireturn, 1) := by decide +kernel
theorem dX12_item_174 : decode cX12_item 174 = .ok (.iconst 0, 1) := by decide +kernel
theorem dX12_item_175 : decode cX12_item 175 = .ok (.ireturn, 1) := by decide +kernel
set_option maxRecDepth 20000 in
theorem ggX12_reads_X12_in : GoodIn wsX12_reads wsX12_in := goodIn_r _ [7] (by decide +kernel) (by decide +kernel)
set_option maxRecDepth 20000 in
theorem gX12_reads_X12_in : GoodIn wsX12_reads (va_wsS RX12 66 yX12_in wsX12_in) := goodIn_app (goodIn_of _ (by decide +kernel)) ggX12_reads_X12_in
set_option maxRecDepth 20000 in
theorem ggX12_reads_X12_item : GoodIn wsX12_reads wsX12_item := goodIn_r _ [11, 2, 1, 12, 13, 14, 6, 15, 3, 16, 17, 18, 19, 20, 21, 22, 23, 24, 25, 26, 27, 28, 29, 4, 5, 7, 30, 31, 32, 33, 34, 35, 36, 37, 38, 39, 40, 41, 42, 43, 44, 45, 46, 47, 48, 49, 50, 51, 52, 53, 54, 55, 56, 57, 58, 59, 60, 61, 62, 63, 64, 65] (by decide +kernel) (by decide +kernel)
set_option maxRecDepth 20000 in
theorem gX12_reads_X12_item : GoodIn wsX12_reads (wsV RX12 103 RX12 yX12_item wsX12_item) := goodIn_app (goodIn_of _ (by decide +kernel)) ggX12_reads_X12_item
theorem dX12_reads_0 : decode cX12_reads 0 = .ok (.iconst 0, 1) := by decide +kernel
theorem dX12_reads_1 : decode cX12_reads 1 = .ok (.istore_n 1, 1) := by decide +kernel
theorem dX12_reads_2 : decode cX12_reads 2 = .ok (.iload_n 1, 1) := by decide +kernel
theorem dX12_reads_3 : decode cX12_reads 3 = .ok (.bipush 78, 2) := by decide +kernel
theorem dX12_reads_5 : decode cX12_reads 5 = .ok (.if_icmp .ge 39, 3) := by decide +kernel
theorem dX12_reads_8 : decode cX12_reads 8 = .ok (.aload_n 0, 1) := by decide +kernel
theorem dX12_reads_9 : decode cX12_reads 9 = .ok (.getfield 16, 3) := by decide +kernel
theorem dX12_reads_12 : decode cX12_reads 12 = .ok (.iload_n 1, 1) := by decide +kernel
theorem dX12_reads_13 : decode cX12_reads 13 = .ok (.iload_n 1, 1) := by decide +kernel
theorem dX12_reads_14 : decode cX12_reads 14 = .ok (.iconst 5, 1) := by decide +kernel
theorem dX12_reads_15 : decode cX12_reads 15 = .ok (.bipush 29, 2) := by decide +kernel
theorem dX12_reads_17 : decode cX12_reads 17 = .ok (.invokestatic 66, 3) := by decide +kernel
theorem dX12_reads_20 : decode cX12_reads 20 = .ok (.ifCond .eq 16, 3) := by decide +kernel
theorem dX12_reads_23 : decode cX12_reads 23 = .ok (.iload_n 1, 1) := by decide +kernel
theorem dX12_reads_24 : decode cX12_reads 24 = .ok (.iconst 5, 1) := by decide +kernel
theorem dX12_reads_25 : decode cX12_reads 25 = .ok (.isub, 1) := by decide +kernel
theorem dX12_reads_26 : decode cX12_reads 26 = .ok (.bipush 6, 2) := by decide +kernel
theorem dX12_reads_28 : decode cX12_reads 28 = .ok (.irem, 1) := by decide +kernel
theorem dX12_reads_29 : decode cX12_reads 29 = .ok (.ifCond .eq 7, 3) := by decide +kernel
theorem dX12_reads_32 : decode cX12_reads 32 = .ok (.iconst 3, 1) := by decide +kernel
theorem dX12_reads_33 : decode cX12_reads 33 = .ok (.goto 4, 3) := by decide +kernel
theorem dX12_reads_36 : decode cX12_reads 36 = .ok (.iconst 0, 1) := by decide +kernel
theorem dX12_reads_37 : decode cX12_reads 37 = .ok (.iastore, 1) := by decide +kernel
theorem dX12_reads_38 : decode cX12_reads 38 = .ok (.iinc 1 1, 3) := by decide +kernel
theorem dX12_reads_41 : decode cX12_reads 41 = .ok (.goto (-39), 3) := by decide +kernel
theorem dX12_reads_44 : decode cX12_reads 44 = .ok (.aload_n 0, 1) := by decide +kernel
theorem dX12_reads_45 : decode cX12_reads 45 = .ok (.getfield 16, 3) := by decide +kernel
theorem dX12_reads_48 : decode cX12_reads 48 = .ok (.iconst 0, 1) := by decide +kernel
theorem dX12_reads_49 : decode cX12_reads 49 = .ok (.iconst 2, 1) := by decide +kernel
theorem dX12_reads_50 : decode cX12_reads 50 = .ok (.iastore, 1) := by decide +kernel
theorem dX12_reads_51 : decode cX12_reads 51 = .ok (.aload_n 0, 1) := by decide +kernel
theorem dX12_reads_52 : decode cX12_reads 52 = .ok (.getfield 16, 3) := by decide +kernel
theorem dX12_reads_55 : decode cX12_reads 55 = .ok (.iconst 1, 1) := by decide +kernel
theorem dX12_reads_56 : decode cX12_reads 56 = .ok (.bipush 20, 2) := by decide +kernel
theorem dX12_reads_58 : decode cX12_reads 58 = .ok (.iastore, 1) := by decide +kernel
theorem dX12_reads_59 : decode cX12_reads 59 = .ok (.aload_n 0, 1) := by decide +kernel
theorem dX12_reads_60 : decode cX12_reads 60 = .ok (.getfield 16, 3) := by decide +kernel
theorem dX12_reads_63 : decode cX12_reads 63 = .ok (.iconst 3, 1) := by decide +kernel
theorem dX12_reads_64 : decode cX12_reads 64 = .ok (.bipush 8, 2) := by decide +kernel
theorem dX12_reads_66 : decode cX12_reads 66 = .ok (.iastore, 1) := by decide +kernel
theorem dX12_reads_67 : decode cX12_reads 67 = .ok (.aload_n 0, 1) := by decide +kernel
theorem dX12_reads_68 : decode cX12_reads 68 = .ok (.iconst 0, 1) := by decide +kernel
theorem dX12_reads_69 : decode cX12_reads 69 = .ok (.putfield 76, 3) := by decide +kernel
theorem dX12_reads_72 : decode cX12_reads 72 = .ok (.aload_n 0, 1) := by decide +kernel
theorem dX12_reads_73 : decode cX12_reads 73 = .ok (.getfield 76, 3) := by decide +kernel
theorem dX12_reads_76 : decode cX12_reads 76 = .ok (.aload_n 0, 1) := by decide +kernel
theorem dX12_reads_77 : decode cX12_reads 77 = .ok (.getfield 70, 3) := by decide +kernel
theorem dX12_reads_80 : decode cX12_reads 80 = .ok (.if_icmp .ge 20, 3) := by decide +kernel
theorem dX12_reads_83 : decode cX12_reads 83 = .ok (.aload_n 0, 1) := by decide +kernel
theorem dX12_reads_84 : decode cX12_reads 84 = .ok (.getfield 76, 3) := by decide +kernel
theorem dX12_reads_87 : decode cX12_reads 87 = .ok (.istore_n 1, 1) := by decide +kernel
theorem dX12_reads_88 : decode cX12_reads 88 = .ok (.aload_n 0, 1) := by decide +kernel
theorem dX12_reads_89 : decode cX12_reads 89 = .ok (.invokevirtual 103, 3) := by decide +kernel
theorem dX12_reads_92 : decode cX12_reads 92 = .ok (.ifCond .ne 5, 3) := by decide +kernel
theorem dX12_reads_95 : decode cX12_reads 95 = .ok (.iload_n 1, 1) := by decide +kernel
theorem dX12_reads_96 : decode cX12_reads 96 = .ok (.ireturn, 1) := by decide +kernel
theorem dX12_reads_97 : decode cX12_reads 97 = .ok (.goto (-25), 3) := by decide +kernel
theorem dX12_reads_100 : decode cX12_reads 100 = .ok (.bipush (-4), 2) := by decide +kernel
theorem dX12_reads_102 : decode cX12_reads 102 = .ok (.ireturn, 1) := by decide +kernel
theorem dX12_lays_0 : decode cX12_lays 0 = .ok (.iconst 0, 1) := by decide +kernel
theorem dX12_lays_1 : decode cX12_lays 1 = .ok (.istore_n 1, 1) := by decide +kernel
theorem dX12_lays_2 : decode cX12_lays 2 = .ok (.iload_n 1, 1) := by decide +kernel
theorem dX12_lays_3 : decode cX12_lays 3 = .ok (.bipush 78, 2) := by decide +kernel
theorem dX12_lays_5 : decode cX12_lays 5 = .ok (.if_icmp .ge 21, 3) := by decide +kernel
theorem dX12_lays_8 : decode cX12_lays 8 = .ok (.aload_n 0, 1) := by decide +kernel
theorem dX12_lays_9 : decode cX12_lays 9 = .ok (.getfield 13, 3) := by decide +kernel
theorem dX12_lays_12 : decode cX12_lays 12 = .ok (.iload_n 1, 1) := by decide +kernel
theorem dX12_lays_13 : decode cX12_lays 13 = .ok (.aload_n 0, 1) := by decide +kernel
theorem dX12_lays_14 : decode cX12_lays 14 = .ok (.getfield 16, 3) := by decide +kernel
theorem dX12_lays_17 : decode cX12_lays 17 = .ok (.iload_n 1, 1) := by decide +kernel
theorem dX12_lays_18 : decode cX12_lays 18 = .ok (.iaload, 1) := by decide +kernel
theorem dX12_lays_19 : decode cX12_lays 19 = .ok (.iastore, 1) := by decide +kernel
theorem dX12_lays_20 : decode cX12_lays 20 = .ok (.iinc 1 1, 3) := by decide +kernel
theorem dX12_lays_23 : decode cX12_lays 23 = .ok (.goto (-21), 3) := by decide +kernel
theorem dX12_lays_26 : decode cX12_lays 26 = .ok (.aload_n 0, 1) := by decide +kernel
theorem dX12_lays_27 : decode cX12_lays 27 = .ok (.getfield 19, 3) := by decide +kernel
theorem dX12_lays_30 : decode cX12_lays 30 = .ok (.iconst 0, 1) := by decide +kernel
theorem dX12_lays_31 : decode cX12_lays 31 = .ok (.iconst 0, 1) := by decide +kernel
theorem dX12_lays_32 : decode cX12_lays 32 = .ok (.iastore, 1) := by decide +kernel
theorem dX12_lays_33 : decode cX12_lays 33 = .ok (.aload_n 0, 1) := by decide +kernel
theorem dX12_lays_34 : decode cX12_lays 34 = .ok (.getfield 19, 3) := by decide +kernel
theorem dX12_lays_37 : decode cX12_lays 37 = .ok (.iconst 1, 1) := by decide +kernel
theorem dX12_lays_38 : decode cX12_lays 38 = .ok (.iconst 0, 1) := by decide +kernel
theorem dX12_lays_39 : decode cX12_lays 39 = .ok (.iastore, 1) := by decide +kernel
theorem dX12_lays_40 : decode cX12_lays 40 = .ok (.aload_n 0, 1) := by decide +kernel
theorem dX12_lays_41 : decode cX12_lays 41 = .ok (.iconst 0, 1) := by decide +kernel
theorem dX12_lays_42 : decode cX12_lays 42 = .ok (.putfield 106, 3) := by decide +kernel
theorem dX12_lays_45 : decode cX12_lays 45 = .ok (.aload_n 0, 1) := by decide +kernel
theorem dX12_lays_46 : decode cX12_lays 46 = .ok (.iconst 0, 1) := by decide +kernel
theorem dX12_lays_47 : decode cX12_lays 47 = .ok (.putfield 109, 3) := by decide +kernel
theorem dX12_lays_50 : decode cX12_lays 50 = .ok (.aload_n 0, 1) := by decide +kernel
theorem dX12_lays_51 : decode cX12_lays 51 = .ok (.iconst 0, 1) := by decide +kernel
theorem dX12_lays_52 : decode cX12_lays 52 = .ok (.putfield 112, 3) := by decide +kernel
theorem dX12_lays_55 : decode cX12_lays 55 = .ok (.aload_n 0, 1) := by decide +kernel
theorem dX12_lays_56 : decode cX12_lays 56 = .ok (.iconst 0, 1) := by decide +kernel
theorem dX12_lays_57 : decode cX12_lays 57 = .ok (.putfield 115, 3) := by decide +kernel
theorem dX12_lays_60 : decode cX12_lays 60 = .ok (.return_, 1) := by decide +kernel
set_option maxRecDepth 20000 in
theorem ggX12_fault_X12_reads : GoodIn wsX12_fault wsX12_reads := goodIn_r _ [5, 6, 7, 8, 9, 10, 4, 11, 12, 13, 14, 15, 16, 17, 18, 19, 20, 21, 22, 23, 24, 25, 26, 27, 28, 29, 30, 31, 32, 33, 34, 35, 36, 37, 38, 39, 40, 41, 42, 43, 44, 45, 46, 47, 48, 49, 50, 51, 52, 53, 54, 55, 56, 57, 58, 59, 60, 61, 62, 63, 64, 65, 66, 67, 68, 69] (by decide +kernel) (by decide +kernel)
set_option maxRecDepth 20000 in
theorem gX12_fault_X12_reads : GoodIn wsX12_fault (wsV RX12 59 RX12 yX12_reads wsX12_reads) := goodIn_app (goodIn_of _ (by decide +kernel)) ggX12_fault_X12_reads
theorem dX12_fault_0 : decode cX12_fault 0 = .ok (.aload_n 0, 1) := by decide +kernel
theorem dX12_fault_1 : decode cX12_fault 1 = .ok (.invokevirtual 59, 3) := by decide +kernel
theorem dX12_fault_4 : decode cX12_fault 4 = .ok (.ireturn, 1) := by decide +kernel
set_option maxRecDepth 20000 in
theorem ggX12_lay_X12_reads : GoodIn wsX12_lay wsX12_reads := goodIn_r _ [6, 7, 8, 9, 10, 11, 5, 12, 13, 14, 15, 16, 17, 18, 19, 20, 21, 22, 23, 24, 25, 26, 27, 28, 29, 30, 31, 32, 33, 34, 35, 36, 37, 38, 39, 40, 41, 42, 43, 44, 45, 46, 56, 57, 58, 59, 60, 61, 62, 63, 64, 65, 66, 67, 68, 69, 70, 71, 72, 73, 74, 75, 76, 77, 78, 79] (by decide +kernel) (by decide +kernel)
set_option maxRecDepth 20000 in
theorem gX12_lay_X12_reads : GoodIn wsX12_lay (wsV RX12 59 RX12 yX12_reads wsX12_reads) := goodIn_app (goodIn_of _ (by decide +kernel)) ggX12_lay_X12_reads
set_option maxRecDepth 20000 in
theorem ggX12_lay_X12_lays : GoodIn wsX12_lay wsX12_lays := goodIn_r _ [50, 1, 7, 51, 52, 53, 54, 55, 56, 57, 58, 59, 60, 61, 62, 63, 64, 65, 66, 67, 68, 69, 70, 71, 72, 73, 74, 75, 76, 77, 78, 79] (by decide +kernel) (by decide +kernel)
set_option maxRecDepth 20000 in
theorem gX12_lay_X12_lays : GoodIn wsX12_lay (wsV RX12 63 RX12 yX12_lays wsX12_lays) := goodIn_app (goodIn_of _ (by decide +kernel)) ggX12_lay_X12_lays
theorem dX12_lay_0 : decode cX12_lay 0 = .ok (.aload_n 0, 1) := by decide +kernel
theorem dX12_lay_1 : decode cX12_lay 1 = .ok (.invokevirtual 59, 3) := by decide +kernel
theorem dX12_lay_4 : decode cX12_lay 4 = .ok (.bipush (-4), 2) := by decide +kernel
theorem dX12_lay_6 : decode cX12_lay 6 = .ok (.if_icmp .eq 6, 3) := by decide +kernel
theorem dX12_lay_9 : decode cX12_lay 9 = .ok (.bipush (-2), 2) := by decide +kernel
theorem dX12_lay_11 : decode cX12_lay 11 = .ok (.ireturn, 1) := by decide +kernel
theorem dX12_lay_12 : decode cX12_lay 12 = .ok (.aload_n 0, 1) := by decide +kernel
theorem dX12_lay_13 : decode cX12_lay 13 = .ok (.invokevirtual 63, 3) := by decide +kernel
theorem dX12_lay_16 : decode cX12_lay 16 = .ok (.aload_n 0, 1) := by decide +kernel
theorem dX12_lay_17 : decode cX12_lay 17 = .ok (.getfield 13, 3) := by decide +kernel
theorem dX12_lay_20 : decode cX12_lay 20 = .ok (.iconst 0, 1) := by decide +kernel
theorem dX12_lay_21 : decode cX12_lay 21 = .ok (.iaload, 1) := by decide +kernel
theorem dX12_lay_22 : decode cX12_lay 22 = .ok (.ireturn, 1) := by decide +kernel
set_option maxRecDepth 20000 in
theorem ggX12_delay_X12_isPlace : GoodIn wsX12_delay wsX12_isPlace := goodIn_r _ [6, 1, 7, 8, 5, 9, 10, 11, 12, 13, 14, 15, 16, 17, 18, 19, 20, 21, 22, 23, 24, 25, 26, 27, 28, 29, 30, 31, 32, 33] (by decide +kernel) (by decide +kernel)
set_option maxRecDepth 20000 in
theorem gX12_delay_X12_isPlace : GoodIn wsX12_delay (wsV RX12 118 RX12 yX12_isPlace wsX12_isPlace) := goodIn_app (goodIn_of _ (by decide +kernel)) ggX12_delay_X12_isPlace
theorem dX12_delay_0 : decode cX12_delay 0 = .ok (.aload_n 0, 1) := by decide +kernel
theorem dX12_delay_1 : decode cX12_delay 1 = .ok (.iload_n 1, 1) := by decide +kernel
theorem dX12_delay_2 : decode cX12_delay 2 = .ok (.invokevirtual 118, 3) := by decide +kernel
theorem dX12_delay_5 : decode cX12_delay 5 = .ok (.ifCond .eq 26, 3) := by decide +kernel
theorem dX12_delay_8 : decode cX12_delay 8 = .ok (.aload_n 0, 1) := by decide +kernel
theorem dX12_delay_9 : decode cX12_delay 9 = .ok (.iload_n 2, 1) := by decide +kernel
theorem dX12_delay_10 : decode cX12_delay 10 = .ok (.invokevirtual 118, 3) := by decide +kernel
theorem dX12_delay_13 : decode cX12_delay 13 = .ok (.ifCond .eq 18, 3) := by decide +kernel
theorem dX12_delay_16 : decode cX12_delay 16 = .ok (.aload_n 0, 1) := by decide +kernel
theorem dX12_delay_17 : decode cX12_delay 17 = .ok (.getfield 13, 3) := by decide +kernel
theorem dX12_delay_20 : decode cX12_delay 20 = .ok (.iconst 5, 1) := by decide +kernel
theorem dX12_delay_21 : decode cX12_delay 21 = .ok (.iconst 5, 1) := by decide +kernel
theorem dX12_delay_22 : decode cX12_delay 22 = .ok (.iload_n 1, 1) := by decide +kernel
theorem dX12_delay_23 : decode cX12_delay 23 = .ok (.imul, 1) := by decide +kernel
theorem dX12_delay_24 : decode cX12_delay 24 = .ok (.iadd, 1) := by decide +kernel
theorem dX12_delay_25 : decode cX12_delay 25 = .ok (.iload_n 2, 1) := by decide +kernel
theorem dX12_delay_26 : decode cX12_delay 26 = .ok (.iadd, 1) := by decide +kernel
theorem dX12_delay_27 : decode cX12_delay 27 = .ok (.iaload, 1) := by decide +kernel
theorem dX12_delay_28 : decode cX12_delay 28 = .ok (.goto 4, 3) := by decide +kernel
theorem dX12_delay_31 : decode cX12_delay 31 = .ok (.iconst (-1), 1) := by decide +kernel
theorem dX12_delay_32 : decode cX12_delay 32 = .ok (.ireturn, 1) := by decide +kernel
set_option maxRecDepth 20000 in
theorem ggX12_word_X12_in : GoodIn wsX12_word wsX12_in := goodIn_r _ [5] (by decide +kernel) (by decide +kernel)
set_option maxRecDepth 20000 in
theorem gX12_word_X12_in : GoodIn wsX12_word (va_wsS RX12 66 yX12_in wsX12_in) := goodIn_app (goodIn_of _ (by decide +kernel)) ggX12_word_X12_in
theorem dX12_word_0 : decode cX12_word 0 = .ok (.iload_n 1, 1) := by decide +kernel
theorem dX12_word_1 : decode cX12_word 1 = .ok (.iconst 0, 1) := by decide +kernel
theorem dX12_word_2 : decode cX12_word 2 = .ok (.aload_n 0, 1) := by decide +kernel
theorem dX12_word_3 : decode cX12_word 3 = .ok (.getfield 13, 3) := by decide +kernel
theorem dX12_word_6 : decode cX12_word 6 = .ok (.iconst 4, 1) := by decide +kernel
theorem dX12_word_7 : decode cX12_word 7 = .ok (.iaload, 1) := by decide +kernel
theorem dX12_word_8 : decode cX12_word 8 = .ok (.iconst 1, 1) := by decide +kernel
theorem dX12_word_9 : decode cX12_word 9 = .ok (.isub, 1) := by decide +kernel
theorem dX12_word_10 : decode cX12_word 10 = .ok (.invokestatic 66, 3) := by decide +kernel
theorem dX12_word_13 : decode cX12_word 13 = .ok (.ifCond .eq 7, 3) := by decide +kernel
theorem dX12_word_16 : decode cX12_word 16 = .ok (.iload_n 2, 1) := by decide +kernel
theorem dX12_word_17 : decode cX12_word 17 = .ok (.ifCond .ge 5, 3) := by decide +kernel
theorem dX12_word_20 : decode cX12_word 20 = .ok (.iconst (-1), 1) := by decide +kernel
theorem dX12_word_21 : decode cX12_word 21 = .ok (.ireturn, 1) := by decide +kernel
theorem dX12_word_22 : decode cX12_word 22 = .ok (.iload_n 2, 1) := by decide +kernel
theorem dX12_word_23 : decode cX12_word 23 = .ok (.aload_n 0, 1) := by decide +kernel
theorem dX12_word_24 : decode cX12_word 24 = .ok (.getfield 13, 3) := by decide +kernel
theorem dX12_word_27 : decode cX12_word 27 = .ok (.bipush 30, 2) := by decide +kernel
theorem dX12_word_29 : decode cX12_word 29 = .ok (.iload_n 1, 1) := by decide +kernel
theorem dX12_word_30 : decode cX12_word 30 = .ok (.iadd, 1) := by decide +kernel
theorem dX12_word_31 : decode cX12_word 31 = .ok (.iaload, 1) := by decide +kernel
theorem dX12_word_32 : decode cX12_word 32 = .ok (.if_icmp .ge 19, 3) := by decide +kernel
theorem dX12_word_35 : decode cX12_word 35 = .ok (.aload_n 0, 1) := by decide +kernel
theorem dX12_word_36 : decode cX12_word 36 = .ok (.getfield 13, 3) := by decide +kernel
theorem dX12_word_39 : decode cX12_word 39 = .ok (.bipush 38, 2) := by decide +kernel
theorem dX12_word_41 : decode cX12_word 41 = .ok (.iconst 4, 1) := by decide +kernel
theorem dX12_word_42 : decode cX12_word 42 = .ok (.iload_n 1, 1) := by decide +kernel
theorem dX12_word_43 : decode cX12_word 43 = .ok (.imul, 1) := by decide +kernel
theorem dX12_word_44 : decode cX12_word 44 = .ok (.iadd, 1) := by decide +kernel
theorem dX12_word_45 : decode cX12_word 45 = .ok (.iload_n 2, 1) := by decide +kernel
theorem dX12_word_46 : decode cX12_word 46 = .ok (.iadd, 1) := by decide +kernel
theorem dX12_word_47 : decode cX12_word 47 = .ok (.iaload, 1) := by decide +kernel
theorem dX12_word_48 : decode cX12_word 48 = .ok (.goto 5, 3) := by decide +kernel
theorem dX12_word_51 : decode cX12_word 51 = .ok (.bipush (-4), 2) := by decide +kernel
theorem dX12_word_53 : decode cX12_word 53 = .ok (.ireturn, 1) := by decide +kernel
theorem dX12_acts_0 : decode cX12_acts 0 = .ok (.aload_n 0, 1) := by decide +kernel
theorem dX12_acts_1 : decode cX12_acts 1 = .ok (.getfield 109, 3) := by decide +kernel
theorem dX12_acts_4 : decode cX12_acts 4 = .ok (.bipush 8, 2) := by decide +kernel
theorem dX12_acts_6 : decode cX12_acts 6 = .ok (.if_icmp .ne 37, 3) := by decide +kernel
theorem dX12_acts_9 : decode cX12_acts 9 = .ok (.iconst 0, 1) := by decide +kernel
theorem dX12_acts_10 : decode cX12_acts 10 = .ok (.istore_n 2, 1) := by decide +kernel
theorem dX12_acts_11 : decode cX12_acts 11 = .ok (.iload_n 2, 1) := by decide +kernel
theorem dX12_acts_12 : decode cX12_acts 12 = .ok (.bipush 7, 2) := by decide +kernel
theorem dX12_acts_14 : decode cX12_acts 14 = .ok (.if_icmp .ge 23, 3) := by decide +kernel
theorem dX12_acts_17 : decode cX12_acts 17 = .ok (.aload_n 0, 1) := by decide +kernel
theorem dX12_acts_18 : decode cX12_acts 18 = .ok (.getfield 25, 3) := by decide +kernel
theorem dX12_acts_21 : decode cX12_acts 21 = .ok (.iload_n 2, 1) := by decide +kernel
theorem dX12_acts_22 : decode cX12_acts 22 = .ok (.aload_n 0, 1) := by decide +kernel
theorem dX12_acts_23 : decode cX12_acts 23 = .ok (.getfield 25, 3) := by decide +kernel
theorem dX12_acts_26 : decode cX12_acts 26 = .ok (.iload_n 2, 1) := by decide +kernel
theorem dX12_acts_27 : decode cX12_acts 27 = .ok (.iconst 1, 1) := by decide +kernel
theorem dX12_acts_28 : decode cX12_acts 28 = .ok (.iadd, 1) := by decide +kernel
theorem dX12_acts_29 : decode cX12_acts 29 = .ok (.iaload, 1) := by decide +kernel
theorem dX12_acts_30 : decode cX12_acts 30 = .ok (.iastore, 1) := by decide +kernel
theorem dX12_acts_31 : decode cX12_acts 31 = .ok (.iinc 2 1, 3) := by decide +kernel
theorem dX12_acts_34 : decode cX12_acts 34 = .ok (.goto (-23), 3) := by decide +kernel
theorem dX12_acts_37 : decode cX12_acts 37 = .ok (.aload_n 0, 1) := by decide +kernel
theorem dX12_acts_38 : decode cX12_acts 38 = .ok (.bipush 7, 2) := by decide +kernel
theorem dX12_acts_40 : decode cX12_acts 40 = .ok (.putfield 109, 3) := by decide +kernel
theorem dX12_acts_43 : decode cX12_acts 43 = .ok (.aload_n 0, 1) := by decide +kernel
theorem dX12_acts_44 : decode cX12_acts 44 = .ok (.getfield 25, 3) := by decide +kernel
theorem dX12_acts_47 : decode cX12_acts 47 = .ok (.aload_n 0, 1) := by decide +kernel
theorem dX12_acts_48 : decode cX12_acts 48 = .ok (.getfield 109, 3) := by decide +kernel
theorem dX12_acts_51 : decode cX12_acts 51 = .ok (.iload_n 1, 1) := by decide +kernel
theorem dX12_acts_52 : decode cX12_acts 52 = .ok (.iastore, 1) := by decide +kernel
theorem dX12_acts_53 : decode cX12_acts 53 = .ok (.aload_n 0, 1) := by decide +kernel
theorem dX12_acts_54 : decode cX12_acts 54 = .ok (.dup, 1) := by decide +kernel
theorem dX12_acts_55 : decode cX12_acts 55 = .ok (.getfield 109, 3) := by decide +kernel
theorem dX12_acts_58 : decode cX12_acts 58 = .ok (.iconst 1, 1) := by decide +kernel
theorem dX12_acts_59 : decode cX12_acts 59 = .ok (.iadd, 1) := by decide +kernel
theorem dX12_acts_60 : decode cX12_acts 60 = .ok (.putfield 109, 3) := by decide +kernel
theorem dX12_acts_63 : decode cX12_acts 63 = .ok (.return_, 1) := by decide +kernel
set_option maxRecDepth 20000 in
theorem ggX12_drum_X12_isPlace : GoodIn wsX12_drum wsX12_isPlace := goodIn_r _ [6, 7, 8, 9, 5, 10, 21, 22, 23, 24, 25, 26, 27, 28, 29, 30, 31, 32, 33, 34, 35, 36, 37, 38, 39, 40, 41, 42, 43, 44] (by decide +kernel) (by decide +kernel)
set_option maxRecDepth 20000 in
theorem gX12_drum_X12_isPlace : GoodIn wsX12_drum (wsV RX12 118 RX12 yX12_isPlace wsX12_isPlace) := goodIn_app (goodIn_of _ (by decide +kernel)) ggX12_drum_X12_isPlace
set_option maxRecDepth 20000 in
theorem ggX12_drum_X12_isSort : GoodIn wsX12_drum wsX12_isSort := goodIn_r _ [14, 7, 8, 9, 5, 10, 21, 22, 23, 24, 25, 26, 27, 28, 29, 30, 31, 32, 33, 34, 35, 36, 37, 38, 39, 40, 41, 42, 43, 44] (by decide +kernel) (by decide +kernel)
set_option maxRecDepth 20000 in
theorem gX12_drum_X12_isSort : GoodIn wsX12_drum (wsV RX12 121 RX12 yX12_isSort wsX12_isSort) := goodIn_app (goodIn_of _ (by decide +kernel)) ggX12_drum_X12_isSort
set_option maxRecDepth 20000 in
theorem ggX12_drum_X12_acts : GoodIn wsX12_drum wsX12_acts := goodIn_r _ [18, 19, 20, 21, 22, 23, 24, 25, 26, 27, 28, 29, 30, 31, 32, 33, 34, 35, 36, 37, 38, 39, 40, 41, 42, 43, 44] (by decide +kernel) (by decide +kernel)
set_option maxRecDepth 20000 in
theorem gX12_drum_X12_acts : GoodIn wsX12_drum (wsV RX12 124 RX12 yX12_acts wsX12_acts) := goodIn_app (goodIn_of _ (by decide +kernel)) ggX12_drum_X12_acts
theorem dX12_drum_0 : decode cX12_drum 0 = .ok (.aload_n 0, 1) := by decide +kernel
theorem dX12_drum_1 : decode cX12_drum 1 = .ok (.iload_n 1, 1) := by decide +kernel
theorem dX12_drum_2 : decode cX12_drum 2 = .ok (.invokevirtual 118, 3) := by decide +kernel
theorem dX12_drum_5 : decode cX12_drum 5 = .ok (.ifCond .eq 11, 3) := by decide +kernel
theorem dX12_drum_8 : decode cX12_drum 8 = .ok (.aload_n 0, 1) := by decide +kernel
theorem dX12_drum_9 : decode cX12_drum 9 = .ok (.iload_n 2, 1) := by decide +kernel
theorem dX12_drum_10 : decode cX12_drum 10 = .ok (.invokevirtual 121, 3) := by decide +kernel
theorem dX12_drum_13 : decode cX12_drum 13 = .ok (.ifCond .ne 5, 3) := by decide +kernel
theorem dX12_drum_16 : decode cX12_drum 16 = .ok (.iconst (-1), 1) := by decide +kernel
theorem dX12_drum_17 : decode cX12_drum 17 = .ok (.ireturn, 1) := by decide +kernel
theorem dX12_drum_18 : decode cX12_drum 18 = .ok (.aload_n 0, 1) := by decide +kernel
theorem dX12_drum_19 : decode cX12_drum 19 = .ok (.getfield 19, 3) := by decide +kernel
theorem dX12_drum_22 : decode cX12_drum 22 = .ok (.iconst 0, 1) := by decide +kernel
theorem dX12_drum_23 : decode cX12_drum 23 = .ok (.iaload, 1) := by decide +kernel
theorem dX12_drum_24 : decode cX12_drum 24 = .ok (.bipush 24, 2) := by decide +kernel
theorem dX12_drum_26 : decode cX12_drum 26 = .ok (.if_icmp .ne 6, 3) := by decide +kernel
theorem dX12_drum_29 : decode cX12_drum 29 = .ok (.bipush (-3), 2) := by decide +kernel
theorem dX12_drum_31 : decode cX12_drum 31 = .ok (.ireturn, 1) := by decide +kernel
theorem dX12_drum_32 : decode cX12_drum 32 = .ok (.iconst 2, 1) := by decide +kernel
theorem dX12_drum_33 : decode cX12_drum 33 = .ok (.iconst 3, 1) := by decide +kernel
theorem dX12_drum_34 : decode cX12_drum 34 = .ok (.aload_n 0, 1) := by decide +kernel
theorem dX12_drum_35 : decode cX12_drum 35 = .ok (.getfield 19, 3) := by decide +kernel
theorem dX12_drum_38 : decode cX12_drum 38 = .ok (.iconst 0, 1) := by decide +kernel
theorem dX12_drum_39 : decode cX12_drum 39 = .ok (.iaload, 1) := by decide +kernel
theorem dX12_drum_40 : decode cX12_drum 40 = .ok (.imul, 1) := by decide +kernel
theorem dX12_drum_41 : decode cX12_drum 41 = .ok (.iadd, 1) := by decide +kernel
theorem dX12_drum_42 : decode cX12_drum 42 = .ok (.istore_n 3, 1) := by decide +kernel
theorem dX12_drum_43 : decode cX12_drum 43 = .ok (.aload_n 0, 1) := by decide +kernel
theorem dX12_drum_44 : decode cX12_drum 44 = .ok (.getfield 19, 3) := by decide +kernel
theorem dX12_drum_47 : decode cX12_drum 47 = .ok (.iload_n 3, 1) := by decide +kernel
theorem dX12_drum_48 : decode cX12_drum 48 = .ok (.iload_n 1, 1) := by decide +kernel
theorem dX12_drum_49 : decode cX12_drum 49 = .ok (.iastore, 1) := by decide +kernel
theorem dX12_drum_50 : decode cX12_drum 50 = .ok (.aload_n 0, 1) := by decide +kernel
theorem dX12_drum_51 : decode cX12_drum 51 = .ok (.getfield 19, 3) := by decide +kernel
theorem dX12_drum_54 : decode cX12_drum 54 = .ok (.iload_n 3, 1) := by decide +kernel
theorem dX12_drum_55 : decode cX12_drum 55 = .ok (.iconst 1, 1) := by decide +kernel
theorem dX12_drum_56 : decode cX12_drum 56 = .ok (.iadd, 1) := by decide +kernel
theorem dX12_drum_57 : decode cX12_drum 57 = .ok (.iload_n 2, 1) := by decide +kernel
theorem dX12_drum_58 : decode cX12_drum 58 = .ok (.iastore, 1) := by decide +kernel
theorem dX12_drum_59 : decode cX12_drum 59 = .ok (.aload_n 0, 1) := by decide +kernel
theorem dX12_drum_60 : decode cX12_drum 60 = .ok (.getfield 19, 3) := by decide +kernel
theorem dX12_drum_63 : decode cX12_drum 63 = .ok (.iload_n 3, 1) := by decide +kernel
theorem dX12_drum_64 : decode cX12_drum 64 = .ok (.iconst 2, 1) := by decide +kernel
theorem dX12_drum_65 : decode cX12_drum 65 = .ok (.iadd, 1) := by decide +kernel
theorem dX12_drum_66 : decode cX12_drum 66 = .ok (.aload_n 0, 1) := by decide +kernel
theorem dX12_drum_67 : decode cX12_drum 67 = .ok (.getfield 19, 3) := by decide +kernel
theorem dX12_drum_70 : decode cX12_drum 70 = .ok (.iconst 1, 1) := by decide +kernel
theorem dX12_drum_71 : decode cX12_drum 71 = .ok (.iaload, 1) := by decide +kernel
theorem dX12_drum_72 : decode cX12_drum 72 = .ok (.iastore, 1) := by decide +kernel
theorem dX12_drum_73 : decode cX12_drum 73 = .ok (.aload_n 0, 1) := by decide +kernel
theorem dX12_drum_74 : decode cX12_drum 74 = .ok (.getfield 19, 3) := by decide +kernel
theorem dX12_drum_77 : decode cX12_drum 77 = .ok (.iconst 0, 1) := by decide +kernel
theorem dX12_drum_78 : decode cX12_drum 78 = .ok (.dup2, 1) := by decide +kernel
theorem dX12_drum_79 : decode cX12_drum 79 = .ok (.iaload, 1) := by decide +kernel
theorem dX12_drum_80 : decode cX12_drum 80 = .ok (.iconst 1, 1) := by decide +kernel
theorem dX12_drum_81 : decode cX12_drum 81 = .ok (.iadd, 1) := by decide +kernel
theorem dX12_drum_82 : decode cX12_drum 82 = .ok (.iastore, 1) := by decide +kernel
theorem dX12_drum_83 : decode cX12_drum 83 = .ok (.aload_n 0, 1) := by decide +kernel
theorem dX12_drum_84 : decode cX12_drum 84 = .ok (.iconst 0, 1) := by decide +kernel
theorem dX12_drum_85 : decode cX12_drum 85 = .ok (.invokevirtual 124, 3) := by decide +kernel
theorem dX12_drum_88 : decode cX12_drum 88 = .ok (.aload_n 0, 1) := by decide +kernel
theorem dX12_drum_89 : decode cX12_drum 89 = .ok (.getfield 19, 3) := by decide +kernel
theorem dX12_drum_92 : decode cX12_drum 92 = .ok (.iconst 0, 1) := by decide +kernel
theorem dX12_drum_93 : decode cX12_drum 93 = .ok (.iaload, 1) := by decide +kernel
theorem dX12_drum_94 : decode cX12_drum 94 = .ok (.ireturn, 1) := by decide +kernel
set_option maxRecDepth 20000 in
theorem ggX12_pass_X12_in : GoodIn wsX12_pass wsX12_in := goodIn_r _ [5] (by decide +kernel) (by decide +kernel)
set_option maxRecDepth 20000 in
theorem gX12_pass_X12_in : GoodIn wsX12_pass (va_wsS RX12 66 yX12_in wsX12_in) := goodIn_app (goodIn_of _ (by decide +kernel)) ggX12_pass_X12_in
set_option maxRecDepth 20000 in
theorem ggX12_pass_X12_acts : GoodIn wsX12_pass wsX12_acts := goodIn_r _ [9, 10, 11, 12, 13, 14, 15, 16, 17, 18, 19, 20, 21, 22, 23, 24, 25, 26, 27, 28, 29, 30, 31, 32, 33, 34, 35] (by decide +kernel) (by decide +kernel)
set_option maxRecDepth 20000 in
theorem gX12_pass_X12_acts : GoodIn wsX12_pass (wsV RX12 124 RX12 yX12_acts wsX12_acts) := goodIn_app (goodIn_of _ (by decide +kernel)) ggX12_pass_X12_acts
theorem dX12_pass_0 : decode cX12_pass 0 = .ok (.iload_n 1, 1) := by decide +kernel
theorem dX12_pass_1 : decode cX12_pass 1 = .ok (.iconst 1, 1) := by decide +kernel
theorem dX12_pass_2 : decode cX12_pass 2 = .ok (.sipush 600, 3) := by decide +kernel
theorem dX12_pass_5 : decode cX12_pass 5 = .ok (.invokestatic 66, 3) := by decide +kernel
theorem dX12_pass_8 : decode cX12_pass 8 = .ok (.ifCond .ne 5, 3) := by decide +kernel
theorem dX12_pass_11 : decode cX12_pass 11 = .ok (.iconst (-1), 1) := by decide +kernel
theorem dX12_pass_12 : decode cX12_pass 12 = .ok (.ireturn, 1) := by decide +kernel
theorem dX12_pass_13 : decode cX12_pass 13 = .ok (.aload_n 0, 1) := by decide +kernel
theorem dX12_pass_14 : decode cX12_pass 14 = .ok (.getfield 19, 3) := by decide +kernel
theorem dX12_pass_17 : decode cX12_pass 17 = .ok (.iconst 1, 1) := by decide +kernel
theorem dX12_pass_18 : decode cX12_pass 18 = .ok (.iaload, 1) := by decide +kernel
theorem dX12_pass_19 : decode cX12_pass 19 = .ok (.iload_n 1, 1) := by decide +kernel
theorem dX12_pass_20 : decode cX12_pass 20 = .ok (.iadd, 1) := by decide +kernel
theorem dX12_pass_21 : decode cX12_pass 21 = .ok (.sipush 9999, 3) := by decide +kernel
theorem dX12_pass_24 : decode cX12_pass 24 = .ok (.if_icmp .le 6, 3) := by decide +kernel
theorem dX12_pass_27 : decode cX12_pass 27 = .ok (.bipush (-2), 2) := by decide +kernel
theorem dX12_pass_29 : decode cX12_pass 29 = .ok (.ireturn, 1) := by decide +kernel
theorem dX12_pass_30 : decode cX12_pass 30 = .ok (.aload_n 0, 1) := by decide +kernel
theorem dX12_pass_31 : decode cX12_pass 31 = .ok (.getfield 19, 3) := by decide +kernel
theorem dX12_pass_34 : decode cX12_pass 34 = .ok (.iconst 1, 1) := by decide +kernel
theorem dX12_pass_35 : decode cX12_pass 35 = .ok (.dup2, 1) := by decide +kernel
theorem dX12_pass_36 : decode cX12_pass 36 = .ok (.iaload, 1) := by decide +kernel
theorem dX12_pass_37 : decode cX12_pass 37 = .ok (.iload_n 1, 1) := by decide +kernel
theorem dX12_pass_38 : decode cX12_pass 38 = .ok (.iadd, 1) := by decide +kernel
theorem dX12_pass_39 : decode cX12_pass 39 = .ok (.iastore, 1) := by decide +kernel
theorem dX12_pass_40 : decode cX12_pass 40 = .ok (.aload_n 0, 1) := by decide +kernel
theorem dX12_pass_41 : decode cX12_pass 41 = .ok (.iload_n 1, 1) := by decide +kernel
theorem dX12_pass_42 : decode cX12_pass 42 = .ok (.invokevirtual 124, 3) := by decide +kernel
theorem dX12_pass_45 : decode cX12_pass 45 = .ok (.aload_n 0, 1) := by decide +kernel
theorem dX12_pass_46 : decode cX12_pass 46 = .ok (.getfield 19, 3) := by decide +kernel
theorem dX12_pass_49 : decode cX12_pass 49 = .ok (.iconst 1, 1) := by decide +kernel
theorem dX12_pass_50 : decode cX12_pass 50 = .ok (.iaload, 1) := by decide +kernel
theorem dX12_pass_51 : decode cX12_pass 51 = .ok (.ireturn, 1) := by decide +kernel
theorem dX12_undo_0 : decode cX12_undo 0 = .ok (.aload_n 0, 1) := by decide +kernel
theorem dX12_undo_1 : decode cX12_undo 1 = .ok (.getfield 109, 3) := by decide +kernel
theorem dX12_undo_4 : decode cX12_undo 4 = .ok (.ifCond .ne 6, 3) := by decide +kernel
theorem dX12_undo_7 : decode cX12_undo 7 = .ok (.bipush (-2), 2) := by decide +kernel
theorem dX12_undo_9 : decode cX12_undo 9 = .ok (.ireturn, 1) := by decide +kernel
theorem dX12_undo_10 : decode cX12_undo 10 = .ok (.aload_n 0, 1) := by decide +kernel
theorem dX12_undo_11 : decode cX12_undo 11 = .ok (.dup, 1) := by decide +kernel
theorem dX12_undo_12 : decode cX12_undo 12 = .ok (.getfield 109, 3) := by decide +kernel
theorem dX12_undo_15 : decode cX12_undo 15 = .ok (.iconst 1, 1) := by decide +kernel
theorem dX12_undo_16 : decode cX12_undo 16 = .ok (.isub, 1) := by decide +kernel
theorem dX12_undo_17 : decode cX12_undo 17 = .ok (.putfield 109, 3) := by decide +kernel
theorem dX12_undo_20 : decode cX12_undo 20 = .ok (.aload_n 0, 1) := by decide +kernel
theorem dX12_undo_21 : decode cX12_undo 21 = .ok (.getfield 19, 3) := by decide +kernel
theorem dX12_undo_24 : decode cX12_undo 24 = .ok (.iconst 0, 1) := by decide +kernel
theorem dX12_undo_25 : decode cX12_undo 25 = .ok (.dup2, 1) := by decide +kernel
theorem dX12_undo_26 : decode cX12_undo 26 = .ok (.iaload, 1) := by decide +kernel
theorem dX12_undo_27 : decode cX12_undo 27 = .ok (.aload_n 0, 1) := by decide +kernel
theorem dX12_undo_28 : decode cX12_undo 28 = .ok (.getfield 25, 3) := by decide +kernel
theorem dX12_undo_31 : decode cX12_undo 31 = .ok (.aload_n 0, 1) := by decide +kernel
theorem dX12_undo_32 : decode cX12_undo 32 = .ok (.getfield 109, 3) := by decide +kernel
theorem dX12_undo_35 : decode cX12_undo 35 = .ok (.iaload, 1) := by decide +kernel
theorem dX12_undo_36 : decode cX12_undo 36 = .ok (.ifCond .ne 7, 3) := by decide +kernel
theorem dX12_undo_39 : decode cX12_undo 39 = .ok (.iconst 1, 1) := by decide +kernel
theorem dX12_undo_40 : decode cX12_undo 40 = .ok (.goto 4, 3) := by decide +kernel
theorem dX12_undo_43 : decode cX12_undo 43 = .ok (.iconst 0, 1) := by decide +kernel
theorem dX12_undo_44 : decode cX12_undo 44 = .ok (.isub, 1) := by decide +kernel
theorem dX12_undo_45 : decode cX12_undo 45 = .ok (.iastore, 1) := by decide +kernel
theorem dX12_undo_46 : decode cX12_undo 46 = .ok (.aload_n 0, 1) := by decide +kernel
theorem dX12_undo_47 : decode cX12_undo 47 = .ok (.getfield 19, 3) := by decide +kernel
theorem dX12_undo_50 : decode cX12_undo 50 = .ok (.iconst 1, 1) := by decide +kernel
theorem dX12_undo_51 : decode cX12_undo 51 = .ok (.dup2, 1) := by decide +kernel
theorem dX12_undo_52 : decode cX12_undo 52 = .ok (.iaload, 1) := by decide +kernel
theorem dX12_undo_53 : decode cX12_undo 53 = .ok (.aload_n 0, 1) := by decide +kernel
theorem dX12_undo_54 : decode cX12_undo 54 = .ok (.getfield 25, 3) := by decide +kernel
theorem dX12_undo_57 : decode cX12_undo 57 = .ok (.aload_n 0, 1) := by decide +kernel
