theorem dX12_secret_66 : decode cX12_secret 66 = .ok (.iaload, 1) := by decide +kernel
theorem dX12_secret_67 : decode cX12_secret 67 = .ok (.bipush 100, 2) := by decide +kernel
theorem dX12_secret_69 : decode cX12_secret 69 = .ok (.isub, 1) := by decide +kernel
theorem dX12_secret_70 : decode cX12_secret 70 = .ok (.if_icmp .le 67, 3) := by decide +kernel
theorem dX12_secret_73 : decode cX12_secret 73 = .ok (.aload_n 0, 1) := by decide +kernel
theorem dX12_secret_74 : decode cX12_secret 74 = .ok (.invokevirtual 146, 3) := by decide +kernel
theorem dX12_secret_77 : decode cX12_secret 77 = .ok (.aload_n 0, 1) := by decide +kernel
theorem dX12_secret_78 : decode cX12_secret 78 = .ok (.iload 4, 2) := by decide +kernel
theorem dX12_secret_80 : decode cX12_secret 80 = .ok (.iload 5, 2) := by decide +kernel
theorem dX12_secret_82 : decode cX12_secret 82 = .ok (.iload 6, 2) := by decide +kernel
theorem dX12_secret_84 : decode cX12_secret 84 = .ok (.invokevirtual 130, 3) := by decide +kernel
theorem dX12_secret_87 : decode cX12_secret 87 = .ok (.aload_n 0, 1) := by decide +kernel
theorem dX12_secret_88 : decode cX12_secret 88 = .ok (.invokevirtual 181, 3) := by decide +kernel
theorem dX12_secret_91 : decode cX12_secret 91 = .ok (.istore 7, 2) := by decide +kernel
theorem dX12_secret_93 : decode cX12_secret 93 = .ok (.iload_n 2, 1) := by decide +kernel
theorem dX12_secret_94 : decode cX12_secret 94 = .ok (.iload 7, 2) := by decide +kernel
theorem dX12_secret_96 : decode cX12_secret 96 = .ok (.ifCond .eq 7, 3) := by decide +kernel
theorem dX12_secret_99 : decode cX12_secret 99 = .ok (.iconst 1, 1) := by decide +kernel
theorem dX12_secret_100 : decode cX12_secret 100 = .ok (.goto 4, 3) := by decide +kernel
theorem dX12_secret_103 : decode cX12_secret 103 = .ok (.iconst 0, 1) := by decide +kernel
theorem dX12_secret_104 : decode cX12_secret 104 = .ok (.iadd, 1) := by decide +kernel
theorem dX12_secret_105 : decode cX12_secret 105 = .ok (.istore_n 2, 1) := by decide +kernel
theorem dX12_secret_106 : decode cX12_secret 106 = .ok (.iload 7, 2) := by decide +kernel
theorem dX12_secret_108 : decode cX12_secret 108 = .ok (.ifCond .eq 21, 3) := by decide +kernel
theorem dX12_secret_111 : decode cX12_secret 111 = .ok (.ldc 184, 2) := by decide +kernel
theorem dX12_secret_113 : decode cX12_secret 113 = .ok (.iload 4, 2) := by decide +kernel
theorem dX12_secret_115 : decode cX12_secret 115 = .ok (.imul, 1) := by decide +kernel
theorem dX12_secret_116 : decode cX12_secret 116 = .ok (.sipush 10000, 3) := by decide +kernel
theorem dX12_secret_119 : decode cX12_secret 119 = .ok (.iload 5, 2) := by decide +kernel
theorem dX12_secret_121 : decode cX12_secret 121 = .ok (.imul, 1) := by decide +kernel
theorem dX12_secret_122 : decode cX12_secret 122 = .ok (.iadd, 1) := by decide +kernel
theorem dX12_secret_123 : decode cX12_secret 123 = .ok (.iload 6, 2) := by decide +kernel
theorem dX12_secret_125 : decode cX12_secret 125 = .ok (.iadd, 1) := by decide +kernel
theorem dX12_secret_126 : decode cX12_secret 126 = .ok (.goto 4, 3) := by decide +kernel
theorem dX12_secret_129 : decode cX12_secret 129 = .ok (.iload_n 3, 1) := by decide +kernel
theorem dX12_secret_130 : decode cX12_secret 130 = .ok (.istore_n 3, 1) := by decide +kernel
theorem dX12_secret_131 : decode cX12_secret 131 = .ok (.iinc 6 (-1), 3) := by decide +kernel
theorem dX12_secret_134 : decode cX12_secret 134 = .ok (.goto (-80), 3) := by decide +kernel
theorem dX12_secret_137 : decode cX12_secret 137 = .ok (.iinc 5 (-1), 3) := by decide +kernel
theorem dX12_secret_140 : decode cX12_secret 140 = .ok (.goto (-99), 3) := by decide +kernel
theorem dX12_secret_143 : decode cX12_secret 143 = .ok (.iinc 4 (-1), 3) := by decide +kernel
theorem dX12_secret_146 : decode cX12_secret 146 = .ok (.goto (-120), 3) := by decide +kernel
theorem dX12_secret_149 : decode cX12_secret 149 = .ok (.iload_n 1, 1) := by decide +kernel
theorem dX12_secret_150 : decode cX12_secret 150 = .ok (.ifCond .ne 7, 3) := by decide +kernel
theorem dX12_secret_153 : decode cX12_secret 153 = .ok (.iload_n 2, 1) := by decide +kernel
theorem dX12_secret_154 : decode cX12_secret 154 = .ok (.goto 4, 3) := by decide +kernel
theorem dX12_secret_157 : decode cX12_secret 157 = .ok (.iload_n 3, 1) := by decide +kernel
theorem dX12_secret_158 : decode cX12_secret 158 = .ok (.ireturn, 1) := by decide +kernel
set_option maxRecDepth 20000 in
theorem ggX12_chance_X12_isPlace : GoodIn wsX12_chance wsX12_isPlace := goodIn_r _ [8, 9, 10, 11, 7, 12, 56, 57, 58, 59, 60, 61, 62, 63, 64, 65, 66, 67, 68, 69, 70, 71, 72, 73, 74, 75, 76, 77, 78, 79] (by decide +kernel) (by decide +kernel)
set_option maxRecDepth 20000 in
theorem gX12_chance_X12_isPlace : GoodIn wsX12_chance (wsV RX12 118 RX12 yX12_isPlace wsX12_isPlace) := goodIn_app (goodIn_of _ (by decide +kernel)) ggX12_chance_X12_isPlace
set_option maxRecDepth 20000 in
theorem ggX12_chance_X12_isSort : GoodIn wsX12_chance wsX12_isSort := goodIn_r _ [16, 9, 10, 11, 7, 12, 56, 57, 58, 59, 60, 61, 62, 63, 64, 65, 66, 67, 68, 69, 70, 71, 72, 73, 74, 75, 76, 77, 78, 79] (by decide +kernel) (by decide +kernel)
set_option maxRecDepth 20000 in
theorem gX12_chance_X12_isSort : GoodIn wsX12_chance (wsV RX12 121 RX12 yX12_isSort wsX12_isSort) := goodIn_app (goodIn_of _ (by decide +kernel)) ggX12_chance_X12_isSort
set_option maxRecDepth 20000 in
theorem ggX12_chance_X12_in : GoodIn wsX12_chance wsX12_in := goodIn_r _ [12] (by decide +kernel) (by decide +kernel)
set_option maxRecDepth 20000 in
theorem gX12_chance_X12_in : GoodIn wsX12_chance (va_wsS RX12 66 yX12_in wsX12_in) := goodIn_app (goodIn_of _ (by decide +kernel)) ggX12_chance_X12_in
set_option maxRecDepth 20000 in
theorem ggX12_chance_X12_codes : GoodIn wsX12_chance wsX12_codes := goodIn_r _ [20, 9, 56, 57, 58, 59, 60, 61, 62, 63, 64, 65, 66, 67, 68, 69, 70, 71, 72, 73, 74, 75, 76, 77, 78, 79] (by decide +kernel) (by decide +kernel)
set_option maxRecDepth 20000 in
theorem gX12_chance_X12_codes : GoodIn wsX12_chance (wsV RX12 168 RX12 yX12_codes wsX12_codes) := goodIn_app (goodIn_of _ (by decide +kernel)) ggX12_chance_X12_codes
set_option maxRecDepth 20000 in
theorem ggX12_chance_X12_taps : GoodIn wsX12_chance wsX12_taps := goodIn_r _ [24, 9, 25, 26, 27, 28, 7, 29, 30, 31, 32, 33, 34, 35, 2, 36, 37, 38, 39, 40, 1, 41, 42, 43, 44, 45, 46, 47, 48, 49, 50, 51, 3, 52, 53, 54, 55, 56, 57, 58, 59, 60, 61, 62, 63, 64, 65, 66, 67, 68, 69, 70, 71, 72, 73, 74, 75, 76, 77, 78, 79] (by decide +kernel) (by decide +kernel)
set_option maxRecDepth 20000 in
theorem gX12_chance_X12_taps : GoodIn wsX12_chance (wsV RX12 171 RX12 yX12_taps wsX12_taps) := goodIn_app (goodIn_of _ (by decide +kernel)) ggX12_chance_X12_taps
theorem dX12_chance_0 : decode cX12_chance 0 = .ok (.aload_n 0, 1) := by decide +kernel
theorem dX12_chance_1 : decode cX12_chance 1 = .ok (.iload_n 1, 1) := by decide +kernel
theorem dX12_chance_2 : decode cX12_chance 2 = .ok (.invokevirtual 118, 3) := by decide +kernel
theorem dX12_chance_5 : decode cX12_chance 5 = .ok (.ifCond .eq 30, 3) := by decide +kernel
theorem dX12_chance_8 : decode cX12_chance 8 = .ok (.aload_n 0, 1) := by decide +kernel
theorem dX12_chance_9 : decode cX12_chance 9 = .ok (.iload_n 2, 1) := by decide +kernel
theorem dX12_chance_10 : decode cX12_chance 10 = .ok (.invokevirtual 121, 3) := by decide +kernel
theorem dX12_chance_13 : decode cX12_chance 13 = .ok (.ifCond .eq 22, 3) := by decide +kernel
theorem dX12_chance_16 : decode cX12_chance 16 = .ok (.iload_n 3, 1) := by decide +kernel
theorem dX12_chance_17 : decode cX12_chance 17 = .ok (.iconst 0, 1) := by decide +kernel
theorem dX12_chance_18 : decode cX12_chance 18 = .ok (.iconst 4, 1) := by decide +kernel
theorem dX12_chance_19 : decode cX12_chance 19 = .ok (.invokestatic 66, 3) := by decide +kernel
theorem dX12_chance_22 : decode cX12_chance 22 = .ok (.ifCond .eq 13, 3) := by decide +kernel
theorem dX12_chance_25 : decode cX12_chance 25 = .ok (.iload 4, 2) := by decide +kernel
theorem dX12_chance_27 : decode cX12_chance 27 = .ok (.iconst 0, 1) := by decide +kernel
theorem dX12_chance_28 : decode cX12_chance 28 = .ok (.iconst 1, 1) := by decide +kernel
theorem dX12_chance_29 : decode cX12_chance 29 = .ok (.invokestatic 66, 3) := by decide +kernel
theorem dX12_chance_32 : decode cX12_chance 32 = .ok (.ifCond .ne 5, 3) := by decide +kernel
theorem dX12_chance_35 : decode cX12_chance 35 = .ok (.iconst (-1), 1) := by decide +kernel
theorem dX12_chance_36 : decode cX12_chance 36 = .ok (.ireturn, 1) := by decide +kernel
theorem dX12_chance_37 : decode cX12_chance 37 = .ok (.aload_n 0, 1) := by decide +kernel
theorem dX12_chance_38 : decode cX12_chance 38 = .ok (.iload_n 3, 1) := by decide +kernel
theorem dX12_chance_39 : decode cX12_chance 39 = .ok (.invokevirtual 168, 3) := by decide +kernel
theorem dX12_chance_42 : decode cX12_chance 42 = .ok (.istore 5, 2) := by decide +kernel
theorem dX12_chance_44 : decode cX12_chance 44 = .ok (.iconst 0, 1) := by decide +kernel
theorem dX12_chance_45 : decode cX12_chance 45 = .ok (.istore 6, 2) := by decide +kernel
theorem dX12_chance_47 : decode cX12_chance 47 = .ok (.iconst 0, 1) := by decide +kernel
theorem dX12_chance_48 : decode cX12_chance 48 = .ok (.istore 7, 2) := by decide +kernel
theorem dX12_chance_50 : decode cX12_chance 50 = .ok (.iload 7, 2) := by decide +kernel
theorem dX12_chance_52 : decode cX12_chance 52 = .ok (.iload 5, 2) := by decide +kernel
theorem dX12_chance_54 : decode cX12_chance 54 = .ok (.if_icmp .ge 81, 3) := by decide +kernel
theorem dX12_chance_57 : decode cX12_chance 57 = .ok (.aload_n 0, 1) := by decide +kernel
theorem dX12_chance_58 : decode cX12_chance 58 = .ok (.iload_n 1, 1) := by decide +kernel
theorem dX12_chance_59 : decode cX12_chance 59 = .ok (.iload_n 3, 1) := by decide +kernel
theorem dX12_chance_60 : decode cX12_chance 60 = .ok (.iload 7, 2) := by decide +kernel
theorem dX12_chance_62 : decode cX12_chance 62 = .ok (.invokevirtual 171, 3) := by decide +kernel
theorem dX12_chance_65 : decode cX12_chance 65 = .ok (.iconst 0, 1) := by decide +kernel
theorem dX12_chance_66 : decode cX12_chance 66 = .ok (.istore 8, 2) := by decide +kernel
theorem dX12_chance_68 : decode cX12_chance 68 = .ok (.iconst 0, 1) := by decide +kernel
theorem dX12_chance_69 : decode cX12_chance 69 = .ok (.istore 9, 2) := by decide +kernel
theorem dX12_chance_71 : decode cX12_chance 71 = .ok (.iload 9, 2) := by decide +kernel
theorem dX12_chance_73 : decode cX12_chance 73 = .ok (.aload_n 0, 1) := by decide +kernel
theorem dX12_chance_74 : decode cX12_chance 74 = .ok (.getfield 134, 3) := by decide +kernel
theorem dX12_chance_77 : decode cX12_chance 77 = .ok (.if_icmp .ge 37, 3) := by decide +kernel
theorem dX12_chance_80 : decode cX12_chance 80 = .ok (.iload 8, 2) := by decide +kernel
theorem dX12_chance_82 : decode cX12_chance 82 = .ok (.ifCond .ne 19, 3) := by decide +kernel
theorem dX12_chance_85 : decode cX12_chance 85 = .ok (.aload_n 0, 1) := by decide +kernel
theorem dX12_chance_86 : decode cX12_chance 86 = .ok (.getfield 40, 3) := by decide +kernel
theorem dX12_chance_89 : decode cX12_chance 89 = .ok (.aload_n 0, 1) := by decide +kernel
theorem dX12_chance_90 : decode cX12_chance 90 = .ok (.getfield 56, 3) := by decide +kernel
theorem dX12_chance_93 : decode cX12_chance 93 = .ok (.iload 9, 2) := by decide +kernel
theorem dX12_chance_95 : decode cX12_chance 95 = .ok (.iaload, 1) := by decide +kernel
theorem dX12_chance_96 : decode cX12_chance 96 = .ok (.iaload, 1) := by decide +kernel
theorem dX12_chance_97 : decode cX12_chance 97 = .ok (.iload_n 2, 1) := by decide +kernel
theorem dX12_chance_98 : decode cX12_chance 98 = .ok (.if_icmp .ne 7, 3) := by decide +kernel
theorem dX12_chance_101 : decode cX12_chance 101 = .ok (.iconst 1, 1) := by decide +kernel
theorem dX12_chance_102 : decode cX12_chance 102 = .ok (.goto 4, 3) := by decide +kernel
theorem dX12_chance_105 : decode cX12_chance 105 = .ok (.iconst 0, 1) := by decide +kernel
theorem dX12_chance_106 : decode cX12_chance 106 = .ok (.istore 8, 2) := by decide +kernel
theorem dX12_chance_108 : decode cX12_chance 108 = .ok (.iinc 9 1, 3) := by decide +kernel
theorem dX12_chance_111 : decode cX12_chance 111 = .ok (.goto (-40), 3) := by decide +kernel
theorem dX12_chance_114 : decode cX12_chance 114 = .ok (.iload 6, 2) := by decide +kernel
theorem dX12_chance_116 : decode cX12_chance 116 = .ok (.iload 8, 2) := by decide +kernel
theorem dX12_chance_118 : decode cX12_chance 118 = .ok (.ifCond .eq 7, 3) := by decide +kernel
theorem dX12_chance_121 : decode cX12_chance 121 = .ok (.iconst 1, 1) := by decide +kernel
theorem dX12_chance_122 : decode cX12_chance 122 = .ok (.goto 4, 3) := by decide +kernel
theorem dX12_chance_125 : decode cX12_chance 125 = .ok (.iconst 0, 1) := by decide +kernel
theorem dX12_chance_126 : decode cX12_chance 126 = .ok (.iadd, 1) := by decide +kernel
theorem dX12_chance_127 : decode cX12_chance 127 = .ok (.istore 6, 2) := by decide +kernel
theorem dX12_chance_129 : decode cX12_chance 129 = .ok (.iinc 7 1, 3) := by decide +kernel
theorem dX12_chance_132 : decode cX12_chance 132 = .ok (.goto (-82), 3) := by decide +kernel
theorem dX12_chance_135 : decode cX12_chance 135 = .ok (.iload 6, 2) := by decide +kernel
theorem dX12_chance_137 : decode cX12_chance 137 = .ok (.istore 7, 2) := by decide +kernel
theorem dX12_chance_139 : decode cX12_chance 139 = .ok (.iload 5, 2) := by decide +kernel
theorem dX12_chance_141 : decode cX12_chance 141 = .ok (.istore 8, 2) := by decide +kernel
theorem dX12_chance_143 : decode cX12_chance 143 = .ok (.iload 7, 2) := by decide +kernel
theorem dX12_chance_145 : decode cX12_chance 145 = .ok (.ifCond .eq 21, 3) := by decide +kernel
theorem dX12_chance_148 : decode cX12_chance 148 = .ok (.iload 8, 2) := by decide +kernel
theorem dX12_chance_150 : decode cX12_chance 150 = .ok (.iload 7, 2) := by decide +kernel
theorem dX12_chance_152 : decode cX12_chance 152 = .ok (.irem, 1) := by decide +kernel
theorem dX12_chance_153 : decode cX12_chance 153 = .ok (.istore 9, 2) := by decide +kernel
theorem dX12_chance_155 : decode cX12_chance 155 = .ok (.iload 7, 2) := by decide +kernel
theorem dX12_chance_157 : decode cX12_chance 157 = .ok (.istore 8, 2) := by decide +kernel
theorem dX12_chance_159 : decode cX12_chance 159 = .ok (.iload 9, 2) := by decide +kernel
theorem dX12_chance_161 : decode cX12_chance 161 = .ok (.istore 7, 2) := by decide +kernel
theorem dX12_chance_163 : decode cX12_chance 163 = .ok (.goto (-20), 3) := by decide +kernel
theorem dX12_chance_166 : decode cX12_chance 166 = .ok (.iload 4, 2) := by decide +kernel
theorem dX12_chance_168 : decode cX12_chance 168 = .ok (.ifCond .ne 11, 3) := by decide +kernel
theorem dX12_chance_171 : decode cX12_chance 171 = .ok (.iload 6, 2) := by decide +kernel
theorem dX12_chance_173 : decode cX12_chance 173 = .ok (.iload 8, 2) := by decide +kernel
theorem dX12_chance_175 : decode cX12_chance 175 = .ok (.idiv, 1) := by decide +kernel
theorem dX12_chance_176 : decode cX12_chance 176 = .ok (.goto 8, 3) := by decide +kernel
theorem dX12_chance_179 : decode cX12_chance 179 = .ok (.iload 5, 2) := by decide +kernel
theorem dX12_chance_181 : decode cX12_chance 181 = .ok (.iload 8, 2) := by decide +kernel
theorem dX12_chance_183 : decode cX12_chance 183 = .ok (.idiv, 1) := by decide +kernel
theorem dX12_chance_184 : decode cX12_chance 184 = .ok (.ireturn, 1) := by decide +kernel
set_option maxRecDepth 20000 in
theorem ggX12_day_X12_in : GoodIn wsX12_day wsX12_in := goodIn_r _ [11] (by decide +kernel) (by decide +kernel)
set_option maxRecDepth 20000 in
theorem gX12_day_X12_in : GoodIn wsX12_day (va_wsS RX12 66 yX12_in wsX12_in) := goodIn_app (goodIn_of _ (by decide +kernel)) ggX12_day_X12_in
set_option maxRecDepth 20000 in
theorem ggX12_day_X12_isPlace : GoodIn wsX12_day wsX12_isPlace := goodIn_r _ [15, 5, 8, 9, 10, 11, 43, 44, 45, 46, 47, 48, 49, 50, 51, 52, 53, 54, 55, 56, 57, 58, 59, 60, 61, 62, 63, 64, 65, 66] (by decide +kernel) (by decide +kernel)
set_option maxRecDepth 20000 in
theorem gX12_day_X12_isPlace : GoodIn wsX12_day (wsV RX12 118 RX12 yX12_isPlace wsX12_isPlace) := goodIn_app (goodIn_of _ (by decide +kernel)) ggX12_day_X12_isPlace
set_option maxRecDepth 20000 in
theorem ggX12_day_X12_tries : GoodIn wsX12_day wsX12_tries := goodIn_r _ [19, 20, 1, 21, 22, 43, 44, 45, 46, 47, 48, 49, 50, 51, 52, 53, 54, 55, 56, 57, 58, 59, 60, 61, 62, 63, 64, 65, 66] (by decide +kernel) (by decide +kernel)
set_option maxRecDepth 20000 in
theorem gX12_day_X12_tries : GoodIn wsX12_day (wsV RX12 130 RX12 yX12_tries wsX12_tries) := goodIn_app (goodIn_of _ (by decide +kernel)) ggX12_day_X12_tries
set_option maxRecDepth 20000 in
theorem ggX12_day_X12_plays : GoodIn wsX12_day wsX12_plays := goodIn_r _ [26, 7, 1, 27, 28, 29, 22, 5, 20, 30, 31, 32, 10, 33, 34, 35, 36, 37, 38, 39, 40, 41, 42, 21, 43, 44, 45, 46, 47, 48, 49, 50, 51, 52, 53, 54, 55, 56, 57, 58, 59, 60, 61, 62, 63, 64, 65, 66] (by decide +kernel) (by decide +kernel)
set_option maxRecDepth 20000 in
theorem gX12_day_X12_plays : GoodIn wsX12_day (wsV RX12 149 RX12 yX12_plays wsX12_plays) := goodIn_app (goodIn_of _ (by decide +kernel)) ggX12_day_X12_plays
theorem dX12_day_0 : decode cX12_day 0 = .ok (.iload_n 1, 1) := by decide +kernel
theorem dX12_day_1 : decode cX12_day 1 = .ok (.iconst 0, 1) := by decide +kernel
theorem dX12_day_2 : decode cX12_day 2 = .ok (.sipush 9999, 3) := by decide +kernel
theorem dX12_day_5 : decode cX12_day 5 = .ok (.invokestatic 66, 3) := by decide +kernel
theorem dX12_day_8 : decode cX12_day 8 = .ok (.ifCond .eq 21, 3) := by decide +kernel
theorem dX12_day_11 : decode cX12_day 11 = .ok (.iload_n 2, 1) := by decide +kernel
theorem dX12_day_12 : decode cX12_day 12 = .ok (.iconst 1, 1) := by decide +kernel
theorem dX12_day_13 : decode cX12_day 13 = .ok (.bipush 99, 2) := by decide +kernel
theorem dX12_day_15 : decode cX12_day 15 = .ok (.invokestatic 66, 3) := by decide +kernel
theorem dX12_day_18 : decode cX12_day 18 = .ok (.ifCond .eq 11, 3) := by decide +kernel
theorem dX12_day_21 : decode cX12_day 21 = .ok (.aload_n 0, 1) := by decide +kernel
theorem dX12_day_22 : decode cX12_day 22 = .ok (.iload_n 3, 1) := by decide +kernel
theorem dX12_day_23 : decode cX12_day 23 = .ok (.invokevirtual 118, 3) := by decide +kernel
theorem dX12_day_26 : decode cX12_day 26 = .ok (.ifCond .ne 5, 3) := by decide +kernel
theorem dX12_day_29 : decode cX12_day 29 = .ok (.iconst (-1), 1) := by decide +kernel
theorem dX12_day_30 : decode cX12_day 30 = .ok (.ireturn, 1) := by decide +kernel
theorem dX12_day_31 : decode cX12_day 31 = .ok (.aload_n 0, 1) := by decide +kernel
theorem dX12_day_32 : decode cX12_day 32 = .ok (.iconst 0, 1) := by decide +kernel
theorem dX12_day_33 : decode cX12_day 33 = .ok (.putfield 127, 3) := by decide +kernel
theorem dX12_day_36 : decode cX12_day 36 = .ok (.iconst 0, 1) := by decide +kernel
theorem dX12_day_37 : decode cX12_day 37 = .ok (.istore 4, 2) := by decide +kernel
theorem dX12_day_39 : decode cX12_day 39 = .ok (.iconst 0, 1) := by decide +kernel
theorem dX12_day_40 : decode cX12_day 40 = .ok (.istore 5, 2) := by decide +kernel
theorem dX12_day_42 : decode cX12_day 42 = .ok (.iload 5, 2) := by decide +kernel
theorem dX12_day_44 : decode cX12_day 44 = .ok (.iload_n 2, 1) := by decide +kernel
theorem dX12_day_45 : decode cX12_day 45 = .ok (.if_icmp .ge 87, 3) := by decide +kernel
theorem dX12_day_48 : decode cX12_day 48 = .ok (.ldc2_w 185, 3) := by decide +kernel
theorem dX12_day_51 : decode cX12_day 51 = .ok (.iload_n 1, 1) := by decide +kernel
theorem dX12_day_52 : decode cX12_day 52 = .ok (.i2l, 1) := by decide +kernel
theorem dX12_day_53 : decode cX12_day 53 = .ok (.lmul, 1) := by decide +kernel
theorem dX12_day_54 : decode cX12_day 54 = .ok (.ldc2_w 187, 3) := by decide +kernel
theorem dX12_day_57 : decode cX12_day 57 = .ok (.iload 5, 2) := by decide +kernel
theorem dX12_day_59 : decode cX12_day 59 = .ok (.i2l, 1) := by decide +kernel
theorem dX12_day_60 : decode cX12_day 60 = .ok (.lmul, 1) := by decide +kernel
theorem dX12_day_61 : decode cX12_day 61 = .ok (.ladd, 1) := by decide +kernel
theorem dX12_day_62 : decode cX12_day 62 = .ok (.lconst 1, 1) := by decide +kernel
theorem dX12_day_63 : decode cX12_day 63 = .ok (.ladd, 1) := by decide +kernel
theorem dX12_day_64 : decode cX12_day 64 = .ok (.lstore 6, 2) := by decide +kernel
theorem dX12_day_66 : decode cX12_day 66 = .ok (.lload 6, 2) := by decide +kernel
theorem dX12_day_68 : decode cX12_day 68 = .ok (.lload 6, 2) := by decide +kernel
theorem dX12_day_70 : decode cX12_day 70 = .ok (.lmul, 1) := by decide +kernel
theorem dX12_day_71 : decode cX12_day 71 = .ok (.ldc2_w 189, 3) := by decide +kernel
theorem dX12_day_74 : decode cX12_day 74 = .ok (.lrem, 1) := by decide +kernel
theorem dX12_day_75 : decode cX12_day 75 = .ok (.l2i, 1) := by decide +kernel
theorem dX12_day_76 : decode cX12_day 76 = .ok (.istore 8, 2) := by decide +kernel
theorem dX12_day_78 : decode cX12_day 78 = .ok (.iload 4, 2) := by decide +kernel
theorem dX12_day_80 : decode cX12_day 80 = .ok (.iload 5, 2) := by decide +kernel
theorem dX12_day_82 : decode cX12_day 82 = .ok (.ifCond .ne 7, 3) := by decide +kernel
theorem dX12_day_85 : decode cX12_day 85 = .ok (.iconst 0, 1) := by decide +kernel
theorem dX12_day_86 : decode cX12_day 86 = .ok (.goto 10, 3) := by decide +kernel
theorem dX12_day_89 : decode cX12_day 89 = .ok (.iload 8, 2) := by decide +kernel
theorem dX12_day_91 : decode cX12_day 91 = .ok (.bipush 64, 2) := by decide +kernel
theorem dX12_day_93 : decode cX12_day 93 = .ok (.idiv, 1) := by decide +kernel
theorem dX12_day_94 : decode cX12_day 94 = .ok (.iconst 5, 1) := by decide +kernel
theorem dX12_day_95 : decode cX12_day 95 = .ok (.irem, 1) := by decide +kernel
theorem dX12_day_96 : decode cX12_day 96 = .ok (.iadd, 1) := by decide +kernel
theorem dX12_day_97 : decode cX12_day 97 = .ok (.istore 4, 2) := by decide +kernel
theorem dX12_day_99 : decode cX12_day 99 = .ok (.aload_n 0, 1) := by decide +kernel
theorem dX12_day_100 : decode cX12_day 100 = .ok (.iload 8, 2) := by decide +kernel
theorem dX12_day_102 : decode cX12_day 102 = .ok (.aload_n 0, 1) := by decide +kernel
theorem dX12_day_103 : decode cX12_day 103 = .ok (.getfield 13, 3) := by decide +kernel
theorem dX12_day_106 : decode cX12_day 106 = .ok (.iconst 0, 1) := by decide +kernel
theorem dX12_day_107 : decode cX12_day 107 = .ok (.iaload, 1) := by decide +kernel
theorem dX12_day_108 : decode cX12_day 108 = .ok (.irem, 1) := by decide +kernel
theorem dX12_day_109 : decode cX12_day 109 = .ok (.iload 8, 2) := by decide +kernel
theorem dX12_day_111 : decode cX12_day 111 = .ok (.bipush 8, 2) := by decide +kernel
theorem dX12_day_113 : decode cX12_day 113 = .ok (.idiv, 1) := by decide +kernel
theorem dX12_day_114 : decode cX12_day 114 = .ok (.aload_n 0, 1) := by decide +kernel
theorem dX12_day_115 : decode cX12_day 115 = .ok (.getfield 13, 3) := by decide +kernel
theorem dX12_day_118 : decode cX12_day 118 = .ok (.iconst 3, 1) := by decide +kernel
theorem dX12_day_119 : decode cX12_day 119 = .ok (.iaload, 1) := by decide +kernel
theorem dX12_day_120 : decode cX12_day 120 = .ok (.irem, 1) := by decide +kernel
theorem dX12_day_121 : decode cX12_day 121 = .ok (.iload 4, 2) := by decide +kernel
theorem dX12_day_123 : decode cX12_day 123 = .ok (.invokevirtual 130, 3) := by decide +kernel
theorem dX12_day_126 : decode cX12_day 126 = .ok (.iinc 5 1, 3) := by decide +kernel
theorem dX12_day_129 : decode cX12_day 129 = .ok (.goto (-87), 3) := by decide +kernel
theorem dX12_day_132 : decode cX12_day 132 = .ok (.aload_n 0, 1) := by decide +kernel
theorem dX12_day_133 : decode cX12_day 133 = .ok (.iload_n 3, 1) := by decide +kernel
theorem dX12_day_134 : decode cX12_day 134 = .ok (.ldc 184, 2) := by decide +kernel
theorem dX12_day_136 : decode cX12_day 136 = .ok (.invokevirtual 149, 3) := by decide +kernel
theorem dX12_day_139 : decode cX12_day 139 = .ok (.aload_n 0, 1) := by decide +kernel
theorem dX12_day_140 : decode cX12_day 140 = .ok (.getfield 134, 3) := by decide +kernel
theorem dX12_day_143 : decode cX12_day 143 = .ok (.ireturn, 1) := by decide +kernel
theorem dX12_keep_0 : decode cX12_keep 0 = .ok (.aload_n 0, 1) := by decide +kernel
theorem dX12_keep_1 : decode cX12_keep 1 = .ok (.getfield 106, 3) := by decide +kernel
theorem dX12_keep_4 : decode cX12_keep 4 = .ok (.iconst 2, 1) := by decide +kernel
theorem dX12_keep_5 : decode cX12_keep 5 = .ok (.if_icmp .ne 6, 3) := by decide +kernel
theorem dX12_keep_8 : decode cX12_keep 8 = .ok (.bipush (-3), 2) := by decide +kernel
theorem dX12_keep_10 : decode cX12_keep 10 = .ok (.ireturn, 1) := by decide +kernel
theorem dX12_keep_11 : decode cX12_keep 11 = .ok (.iconst 0, 1) := by decide +kernel
theorem dX12_keep_12 : decode cX12_keep 12 = .ok (.istore_n 1, 1) := by decide +kernel
theorem dX12_keep_13 : decode cX12_keep 13 = .ok (.iload_n 1, 1) := by decide +kernel
theorem dX12_keep_14 : decode cX12_keep 14 = .ok (.bipush 74, 2) := by decide +kernel
theorem dX12_keep_16 : decode cX12_keep 16 = .ok (.if_icmp .ge 29, 3) := by decide +kernel
theorem dX12_keep_19 : decode cX12_keep 19 = .ok (.aload_n 0, 1) := by decide +kernel
theorem dX12_keep_20 : decode cX12_keep 20 = .ok (.getfield 22, 3) := by decide +kernel
theorem dX12_keep_23 : decode cX12_keep 23 = .ok (.bipush 74, 2) := by decide +kernel
theorem dX12_keep_25 : decode cX12_keep 25 = .ok (.aload_n 0, 1) := by decide +kernel
theorem dX12_keep_26 : decode cX12_keep 26 = .ok (.getfield 106, 3) := by decide +kernel
theorem dX12_keep_29 : decode cX12_keep 29 = .ok (.imul, 1) := by decide +kernel
theorem dX12_keep_30 : decode cX12_keep 30 = .ok (.iload_n 1, 1) := by decide +kernel
theorem dX12_keep_31 : decode cX12_keep 31 = .ok (.iadd, 1) := by decide +kernel
theorem dX12_keep_32 : decode cX12_keep 32 = .ok (.aload_n 0, 1) := by decide +kernel
theorem dX12_keep_33 : decode cX12_keep 33 = .ok (.getfield 19, 3) := by decide +kernel
theorem dX12_keep_36 : decode cX12_keep 36 = .ok (.iload_n 1, 1) := by decide +kernel
theorem dX12_keep_37 : decode cX12_keep 37 = .ok (.iaload, 1) := by decide +kernel
theorem dX12_keep_38 : decode cX12_keep 38 = .ok (.iastore, 1) := by decide +kernel
theorem dX12_keep_39 : decode cX12_keep 39 = .ok (.iinc 1 1, 3) := by decide +kernel
theorem dX12_keep_42 : decode cX12_keep 42 = .ok (.goto (-29), 3) := by decide +kernel
theorem dX12_keep_45 : decode cX12_keep 45 = .ok (.aload_n 0, 1) := by decide +kernel
theorem dX12_keep_46 : decode cX12_keep 46 = .ok (.dup, 1) := by decide +kernel
theorem dX12_keep_47 : decode cX12_keep 47 = .ok (.getfield 106, 3) := by decide +kernel
theorem dX12_keep_50 : decode cX12_keep 50 = .ok (.iconst 1, 1) := by decide +kernel
theorem dX12_keep_51 : decode cX12_keep 51 = .ok (.iadd, 1) := by decide +kernel
theorem dX12_keep_52 : decode cX12_keep 52 = .ok (.putfield 106, 3) := by decide +kernel
theorem dX12_keep_55 : decode cX12_keep 55 = .ok (.aload_n 0, 1) := by decide +kernel
theorem dX12_keep_56 : decode cX12_keep 56 = .ok (.getfield 106, 3) := by decide +kernel
theorem dX12_keep_59 : decode cX12_keep 59 = .ok (.ireturn, 1) := by decide +kernel
theorem dX12_back_0 : decode cX12_back 0 = .ok (.aload_n 0, 1) := by decide +kernel
theorem dX12_back_1 : decode cX12_back 1 = .ok (.getfield 106, 3) := by decide +kernel
theorem dX12_back_4 : decode cX12_back 4 = .ok (.ifCond .ne 6, 3) := by decide +kernel
theorem dX12_back_7 : decode cX12_back 7 = .ok (.bipush (-2), 2) := by decide +kernel
theorem dX12_back_9 : decode cX12_back 9 = .ok (.ireturn, 1) := by decide +kernel
theorem dX12_back_10 : decode cX12_back 10 = .ok (.aload_n 0, 1) := by decide +kernel
theorem dX12_back_11 : decode cX12_back 11 = .ok (.dup, 1) := by decide +kernel
theorem dX12_back_12 : decode cX12_back 12 = .ok (.getfield 106, 3) := by decide +kernel
theorem dX12_back_15 : decode cX12_back 15 = .ok (.iconst 1, 1) := by decide +kernel
theorem dX12_back_16 : decode cX12_back 16 = .ok (.isub, 1) := by decide +kernel
theorem dX12_back_17 : decode cX12_back 17 = .ok (.putfield 106, 3) := by decide +kernel
theorem dX12_back_20 : decode cX12_back 20 = .ok (.iconst 0, 1) := by decide +kernel
theorem dX12_back_21 : decode cX12_back 21 = .ok (.istore_n 1, 1) := by decide +kernel
theorem dX12_back_22 : decode cX12_back 22 = .ok (.iload_n 1, 1) := by decide +kernel
theorem dX12_back_23 : decode cX12_back 23 = .ok (.bipush 74, 2) := by decide +kernel
theorem dX12_back_25 : decode cX12_back 25 = .ok (.if_icmp .ge 29, 3) := by decide +kernel
theorem dX12_back_28 : decode cX12_back 28 = .ok (.aload_n 0, 1) := by decide +kernel
theorem dX12_back_29 : decode cX12_back 29 = .ok (.getfield 19, 3) := by decide +kernel
theorem dX12_back_32 : decode cX12_back 32 = .ok (.iload_n 1, 1) := by decide +kernel
theorem dX12_back_33 : decode cX12_back 33 = .ok (.aload_n 0, 1) := by decide +kernel
theorem dX12_back_34 : decode cX12_back 34 = .ok (.getfield 22, 3) := by decide +kernel
theorem dX12_back_37 : decode cX12_back 37 = .ok (.bipush 74, 2) := by decide +kernel
theorem dX12_back_39 : decode cX12_back 39 = .ok (.aload_n 0, 1) := by decide +kernel
theorem dX12_back_40 : decode cX12_back 40 = .ok (.getfield 106, 3) := by decide +kernel
theorem dX12_back_43 : decode cX12_back 43 = .ok (.imul, 1) := by decide +kernel
theorem dX12_back_44 : decode cX12_back 44 = .ok (.iload_n 1, 1) := by decide +kernel
theorem dX12_back_45 : decode cX12_back 45 = .ok (.iadd, 1) := by decide +kernel
theorem dX12_back_46 : decode cX12_back 46 = .ok (.iaload, 1) := by decide +kernel
theorem dX12_back_47 : decode cX12_back 47 = .ok (.iastore, 1) := by decide +kernel
theorem dX12_back_48 : decode cX12_back 48 = .ok (.iinc 1 1, 3) := by decide +kernel
theorem dX12_back_51 : decode cX12_back 51 = .ok (.goto (-29), 3) := by decide +kernel
theorem dX12_back_54 : decode cX12_back 54 = .ok (.aload_n 0, 1) := by decide +kernel
theorem dX12_back_55 : decode cX12_back 55 = .ok (.iconst 0, 1) := by decide +kernel
theorem dX12_back_56 : decode cX12_back 56 = .ok (.putfield 109, 3) := by decide +kernel
theorem dX12_back_59 : decode cX12_back 59 = .ok (.aload_n 0, 1) := by decide +kernel
theorem dX12_back_60 : decode cX12_back 60 = .ok (.getfield 106, 3) := by decide +kernel
theorem dX12_back_63 : decode cX12_back 63 = .ok (.ireturn, 1) := by decide +kernel
set_option maxRecDepth 20000 in
theorem ggX12_count_X12_in : GoodIn wsX12_count wsX12_in := goodIn_r _ [11] (by decide +kernel) (by decide +kernel)
set_option maxRecDepth 20000 in
theorem gX12_count_X12_in : GoodIn wsX12_count (va_wsS RX12 66 yX12_in wsX12_in) := goodIn_app (goodIn_of _ (by decide +kernel)) ggX12_count_X12_in
theorem dX12_count_0 : decode cX12_count 0 = .ok (.iload_n 1, 1) := by decide +kernel
theorem dX12_count_1 : decode cX12_count 1 = .ok (.iconst 0, 1) := by decide +kernel
theorem dX12_count_2 : decode cX12_count 2 = .ok (.bipush 9, 2) := by decide +kernel
theorem dX12_count_4 : decode cX12_count 4 = .ok (.invokestatic 66, 3) := by decide +kernel
theorem dX12_count_7 : decode cX12_count 7 = .ok (.ifCond .ne 5, 3) := by decide +kernel
theorem dX12_count_10 : decode cX12_count 10 = .ok (.iconst (-1), 1) := by decide +kernel
theorem dX12_count_11 : decode cX12_count 11 = .ok (.ireturn, 1) := by decide +kernel
theorem dX12_count_12 : decode cX12_count 12 = .ok (.iload_n 1, 1) := by decide +kernel
theorem dX12_count_13 : decode cX12_count 13 = .ok (.ifCond .ne 12, 3) := by decide +kernel
theorem dX12_count_16 : decode cX12_count 16 = .ok (.aload_n 0, 1) := by decide +kernel
theorem dX12_count_17 : decode cX12_count 17 = .ok (.getfield 13, 3) := by decide +kernel
theorem dX12_count_20 : decode cX12_count 20 = .ok (.iconst 0, 1) := by decide +kernel
theorem dX12_count_21 : decode cX12_count 21 = .ok (.iaload, 1) := by decide +kernel
theorem dX12_count_22 : decode cX12_count 22 = .ok (.goto 51, 3) := by decide +kernel
theorem dX12_count_25 : decode cX12_count 25 = .ok (.iload_n 1, 1) := by decide +kernel
theorem dX12_count_26 : decode cX12_count 26 = .ok (.iconst 1, 1) := by decide +kernel
theorem dX12_count_27 : decode cX12_count 27 = .ok (.if_icmp .ne 12, 3) := by decide +kernel
theorem dX12_count_30 : decode cX12_count 30 = .ok (.aload_n 0, 1) := by decide +kernel
theorem dX12_count_31 : decode cX12_count 31 = .ok (.getfield 13, 3) := by decide +kernel
theorem dX12_count_34 : decode cX12_count 34 = .ok (.iconst 3, 1) := by decide +kernel
theorem dX12_count_35 : decode cX12_count 35 = .ok (.iaload, 1) := by decide +kernel
theorem dX12_count_36 : decode cX12_count 36 = .ok (.goto 37, 3) := by decide +kernel
theorem dX12_count_39 : decode cX12_count 39 = .ok (.iload_n 1, 1) := by decide +kernel
theorem dX12_count_40 : decode cX12_count 40 = .ok (.iconst 2, 1) := by decide +kernel
theorem dX12_count_41 : decode cX12_count 41 = .ok (.if_icmp .ne 12, 3) := by decide +kernel
theorem dX12_count_44 : decode cX12_count 44 = .ok (.aload_n 0, 1) := by decide +kernel
theorem dX12_count_45 : decode cX12_count 45 = .ok (.getfield 13, 3) := by decide +kernel
theorem dX12_count_48 : decode cX12_count 48 = .ok (.iconst 4, 1) := by decide +kernel
theorem dX12_count_49 : decode cX12_count 49 = .ok (.iaload, 1) := by decide +kernel
theorem dX12_count_50 : decode cX12_count 50 = .ok (.goto 23, 3) := by decide +kernel
theorem dX12_count_53 : decode cX12_count 53 = .ok (.iload_n 1, 1) := by decide +kernel
theorem dX12_count_54 : decode cX12_count 54 = .ok (.iconst 3, 1) := by decide +kernel
theorem dX12_count_55 : decode cX12_count 55 = .ok (.if_icmp .ne 12, 3) := by decide +kernel
theorem dX12_count_58 : decode cX12_count 58 = .ok (.aload_n 0, 1) := by decide +kernel
theorem dX12_count_59 : decode cX12_count 59 = .ok (.getfield 19, 3) := by decide +kernel
theorem dX12_count_62 : decode cX12_count 62 = .ok (.iconst 0, 1) := by decide +kernel
theorem dX12_count_63 : decode cX12_count 63 = .ok (.iaload, 1) := by decide +kernel
theorem dX12_count_64 : decode cX12_count 64 = .ok (.goto 9, 3) := by decide +kernel
theorem dX12_count_67 : decode cX12_count 67 = .ok (.aload_n 0, 1) := by decide +kernel
theorem dX12_count_68 : decode cX12_count 68 = .ok (.getfield 19, 3) := by decide +kernel
theorem dX12_count_71 : decode cX12_count 71 = .ok (.iconst 1, 1) := by decide +kernel
theorem dX12_count_72 : decode cX12_count 72 = .ok (.iaload, 1) := by decide +kernel
theorem dX12_count_73 : decode cX12_count 73 = .ok (.istore_n 2, 1) := by decide +kernel
theorem dX12_count_74 : decode cX12_count 74 = .ok (.iload_n 1, 1) := by decide +kernel
theorem dX12_count_75 : decode cX12_count 75 = .ok (.iconst 5, 1) := by decide +kernel
theorem dX12_count_76 : decode cX12_count 76 = .ok (.if_icmp .ne 10, 3) := by decide +kernel
theorem dX12_count_79 : decode cX12_count 79 = .ok (.aload_n 0, 1) := by decide +kernel
theorem dX12_count_80 : decode cX12_count 80 = .ok (.getfield 112, 3) := by decide +kernel
theorem dX12_count_83 : decode cX12_count 83 = .ok (.goto 46, 3) := by decide +kernel
theorem dX12_count_86 : decode cX12_count 86 = .ok (.iload_n 1, 1) := by decide +kernel
theorem dX12_count_87 : decode cX12_count 87 = .ok (.bipush 6, 2) := by decide +kernel
theorem dX12_count_89 : decode cX12_count 89 = .ok (.if_icmp .ne 10, 3) := by decide +kernel
theorem dX12_count_92 : decode cX12_count 92 = .ok (.aload_n 0, 1) := by decide +kernel
theorem dX12_count_93 : decode cX12_count 93 = .ok (.getfield 115, 3) := by decide +kernel
theorem dX12_count_96 : decode cX12_count 96 = .ok (.goto 33, 3) := by decide +kernel
theorem dX12_count_99 : decode cX12_count 99 = .ok (.iload_n 1, 1) := by decide +kernel
theorem dX12_count_100 : decode cX12_count 100 = .ok (.bipush 7, 2) := by decide +kernel
theorem dX12_count_102 : decode cX12_count 102 = .ok (.if_icmp .ne 10, 3) := by decide +kernel
theorem dX12_count_105 : decode cX12_count 105 = .ok (.aload_n 0, 1) := by decide +kernel
theorem dX12_count_106 : decode cX12_count 106 = .ok (.getfield 109, 3) := by decide +kernel
theorem dX12_count_109 : decode cX12_count 109 = .ok (.goto 20, 3) := by decide +kernel
theorem dX12_count_112 : decode cX12_count 112 = .ok (.iload_n 1, 1) := by decide +kernel
theorem dX12_count_113 : decode cX12_count 113 = .ok (.bipush 8, 2) := by decide +kernel
theorem dX12_count_115 : decode cX12_count 115 = .ok (.if_icmp .ne 10, 3) := by decide +kernel
theorem dX12_count_118 : decode cX12_count 118 = .ok (.aload_n 0, 1) := by decide +kernel
theorem dX12_count_119 : decode cX12_count 119 = .ok (.getfield 106, 3) := by decide +kernel
theorem dX12_count_122 : decode cX12_count 122 = .ok (.goto 7, 3) := by decide +kernel
theorem dX12_count_125 : decode cX12_count 125 = .ok (.aload_n 0, 1) := by decide +kernel
theorem dX12_count_126 : decode cX12_count 126 = .ok (.getfield 70, 3) := by decide +kernel
theorem dX12_count_129 : decode cX12_count 129 = .ok (.istore_n 3, 1) := by decide +kernel
theorem dX12_count_130 : decode cX12_count 130 = .ok (.iload_n 1, 1) := by decide +kernel
theorem dX12_count_131 : decode cX12_count 131 = .ok (.iconst 5, 1) := by decide +kernel
theorem dX12_count_132 : decode cX12_count 132 = .ok (.if_icmp .ge 7, 3) := by decide +kernel
theorem dX12_count_135 : decode cX12_count 135 = .ok (.iload_n 2, 1) := by decide +kernel
theorem dX12_count_136 : decode cX12_count 136 = .ok (.goto 4, 3) := by decide +kernel
theorem dX12_count_139 : decode cX12_count 139 = .ok (.iload_n 3, 1) := by decide +kernel
theorem dX12_count_140 : decode cX12_count 140 = .ok (.ireturn, 1) := by decide +kernel
theorem dJ9_max_7cf53_0 : decode cJ9_max_7cf53 0 = .ok (.iload_n 0, 1) := by decide +kernel
theorem dJ9_max_7cf53_1 : decode cJ9_max_7cf53 1 = .ok (.iload_n 1, 1) := by decide +kernel
theorem dJ9_max_7cf53_2 : decode cJ9_max_7cf53 2 = .ok (.if_icmp .lt 7, 3) := by decide +kernel
theorem dJ9_max_7cf53_5 : decode cJ9_max_7cf53 5 = .ok (.iload_n 0, 1) := by decide +kernel
theorem dJ9_max_7cf53_6 : decode cJ9_max_7cf53 6 = .ok (.goto 4, 3) := by decide +kernel
theorem dJ9_max_7cf53_9 : decode cJ9_max_7cf53 9 = .ok (.iload_n 1, 1) := by decide +kernel
theorem dJ9_max_7cf53_10 : decode cJ9_max_7cf53 10 = .ok (.ireturn, 1) := by decide +kernel
theorem dJ9_min_7cf53_0 : decode cJ9_min_7cf53 0 = .ok (.iload_n 0, 1) := by decide +kernel
theorem dJ9_min_7cf53_1 : decode cJ9_min_7cf53 1 = .ok (.iload_n 1, 1) := by decide +kernel
theorem dJ9_min_7cf53_2 : decode cJ9_min_7cf53 2 = .ok (.if_icmp .gt 7, 3) := by decide +kernel
theorem dJ9_min_7cf53_5 : decode cJ9_min_7cf53 5 = .ok (.iload_n 0, 1) := by decide +kernel
theorem dJ9_min_7cf53_6 : decode cJ9_min_7cf53 6 = .ok (.goto 4, 3) := by decide +kernel
theorem dJ9_min_7cf53_9 : decode cJ9_min_7cf53 9 = .ok (.iload_n 1, 1) := by decide +kernel
theorem dJ9_min_7cf53_10 : decode cJ9_min_7cf53 10 = .ok (.ireturn, 1) := by decide +kernel
