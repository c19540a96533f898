theorem dX11_init_1 : decode cX11_init 1 = .ok (.invokespecial 1, 3) := by decide +kernel
theorem dX11_init_4 : decode cX11_init 4 = .ok (.aload_n 0, 1) := by decide +kernel
theorem dX11_init_5 : decode cX11_init 5 = .ok (.new 7, 3) := by decide +kernel
theorem dX11_init_8 : decode cX11_init 8 = .ok (.dup, 1) := by decide +kernel
theorem dX11_init_9 : decode cX11_init 9 = .ok (.invokespecial 9, 3) := by decide +kernel
theorem dX11_init_12 : decode cX11_init 12 = .ok (.putfield 10, 3) := by decide +kernel
theorem dX11_init_15 : decode cX11_init 15 = .ok (.aload_n 0, 1) := by decide +kernel
theorem dX11_init_16 : decode cX11_init 16 = .ok (.new 16, 3) := by decide +kernel
theorem dX11_init_19 : decode cX11_init 19 = .ok (.dup, 1) := by decide +kernel
theorem dX11_init_20 : decode cX11_init 20 = .ok (.aload_n 0, 1) := by decide +kernel
theorem dX11_init_21 : decode cX11_init 21 = .ok (.getfield 10, 3) := by decide +kernel
theorem dX11_init_24 : decode cX11_init 24 = .ok (.invokespecial 18, 3) := by decide +kernel
theorem dX11_init_27 : decode cX11_init 27 = .ok (.putfield 21, 3) := by decide +kernel
theorem dX11_init_30 : decode cX11_init 30 = .ok (.aload_n 0, 1) := by decide +kernel
theorem dX11_init_31 : decode cX11_init 31 = .ok (.new 25, 3) := by decide +kernel
theorem dX11_init_34 : decode cX11_init 34 = .ok (.dup, 1) := by decide +kernel
theorem dX11_init_35 : decode cX11_init 35 = .ok (.invokespecial 27, 3) := by decide +kernel
theorem dX11_init_38 : decode cX11_init 38 = .ok (.putfield 28, 3) := by decide +kernel
theorem dX11_init_41 : decode cX11_init 41 = .ok (.aload_n 0, 1) := by decide +kernel
theorem dX11_init_42 : decode cX11_init 42 = .ok (.new 32, 3) := by decide +kernel
theorem dX11_init_45 : decode cX11_init 45 = .ok (.dup, 1) := by decide +kernel
theorem dX11_init_46 : decode cX11_init 46 = .ok (.invokespecial 34, 3) := by decide +kernel
theorem dX11_init_49 : decode cX11_init 49 = .ok (.putfield 35, 3) := by decide +kernel
theorem dX11_init_52 : decode cX11_init 52 = .ok (.aload_n 0, 1) := by decide +kernel
theorem dX11_init_53 : decode cX11_init 53 = .ok (.new 39, 3) := by decide +kernel
theorem dX11_init_56 : decode cX11_init 56 = .ok (.dup, 1) := by decide +kernel
theorem dX11_init_57 : decode cX11_init 57 = .ok (.invokespecial 41, 3) := by decide +kernel
theorem dX11_init_60 : decode cX11_init 60 = .ok (.putfield 42, 3) := by decide +kernel
theorem dX11_init_63 : decode cX11_init 63 = .ok (.aload_n 0, 1) := by decide +kernel
theorem dX11_init_64 : decode cX11_init 64 = .ok (.iconst 2, 1) := by decide +kernel
theorem dX11_init_65 : decode cX11_init 65 = .ok (.anewarray 32, 3) := by decide +kernel
theorem dX11_init_68 : decode cX11_init 68 = .ok (.putfield 46, 3) := by decide +kernel
theorem dX11_init_71 : decode cX11_init 71 = .ok (.iconst 0, 1) := by decide +kernel
theorem dX11_init_72 : decode cX11_init 72 = .ok (.istore_n 1, 1) := by decide +kernel
theorem dX11_init_73 : decode cX11_init 73 = .ok (.iload_n 1, 1) := by decide +kernel
theorem dX11_init_74 : decode cX11_init 74 = .ok (.iconst 2, 1) := by decide +kernel
theorem dX11_init_75 : decode cX11_init 75 = .ok (.if_icmp .ge 22, 3) := by decide +kernel
theorem dX11_init_78 : decode cX11_init 78 = .ok (.aload_n 0, 1) := by decide +kernel
theorem dX11_init_79 : decode cX11_init 79 = .ok (.getfield 46, 3) := by decide +kernel
theorem dX11_init_82 : decode cX11_init 82 = .ok (.iload_n 1, 1) := by decide +kernel
theorem dX11_init_83 : decode cX11_init 83 = .ok (.new 32, 3) := by decide +kernel
theorem dX11_init_86 : decode cX11_init 86 = .ok (.dup, 1) := by decide +kernel
theorem dX11_init_87 : decode cX11_init 87 = .ok (.invokespecial 34, 3) := by decide +kernel
theorem dX11_init_90 : decode cX11_init 90 = .ok (.aastore, 1) := by decide +kernel
theorem dX11_init_91 : decode cX11_init 91 = .ok (.iinc 1 1, 3) := by decide +kernel
theorem dX11_init_94 : decode cX11_init 94 = .ok (.goto (-21), 3) := by decide +kernel
theorem dX11_init_97 : decode cX11_init 97 = .ok (.aload_n 0, 1) := by decide +kernel
theorem dX11_init_98 : decode cX11_init 98 = .ok (.new 50, 3) := by decide +kernel
theorem dX11_init_101 : decode cX11_init 101 = .ok (.dup, 1) := by decide +kernel
theorem dX11_init_102 : decode cX11_init 102 = .ok (.bipush 8, 2) := by decide +kernel
theorem dX11_init_104 : decode cX11_init 104 = .ok (.invokespecial 52, 3) := by decide +kernel
theorem dX11_init_107 : decode cX11_init 107 = .ok (.putfield 55, 3) := by decide +kernel
theorem dX11_init_110 : decode cX11_init 110 = .ok (.aload_n 0, 1) := by decide +kernel
theorem dX11_init_111 : decode cX11_init 111 = .ok (.new 59, 3) := by decide +kernel
theorem dX11_init_114 : decode cX11_init 114 = .ok (.dup, 1) := by decide +kernel
theorem dX11_init_115 : decode cX11_init 115 = .ok (.aload_n 0, 1) := by decide +kernel
theorem dX11_init_116 : decode cX11_init 116 = .ok (.getfield 28, 3) := by decide +kernel
theorem dX11_init_119 : decode cX11_init 119 = .ok (.aload_n 0, 1) := by decide +kernel
theorem dX11_init_120 : decode cX11_init 120 = .ok (.getfield 35, 3) := by decide +kernel
theorem dX11_init_123 : decode cX11_init 123 = .ok (.invokespecial 61, 3) := by decide +kernel
theorem dX11_init_126 : decode cX11_init 126 = .ok (.putfield 64, 3) := by decide +kernel
theorem dX11_init_129 : decode cX11_init 129 = .ok (.aload_n 0, 1) := by decide +kernel
theorem dX11_init_130 : decode cX11_init 130 = .ok (.new 68, 3) := by decide +kernel
theorem dX11_init_133 : decode cX11_init 133 = .ok (.dup, 1) := by decide +kernel
theorem dX11_init_134 : decode cX11_init 134 = .ok (.aload_n 0, 1) := by decide +kernel
theorem dX11_init_135 : decode cX11_init 135 = .ok (.getfield 28, 3) := by decide +kernel
theorem dX11_init_138 : decode cX11_init 138 = .ok (.aload_n 0, 1) := by decide +kernel
theorem dX11_init_139 : decode cX11_init 139 = .ok (.getfield 35, 3) := by decide +kernel
theorem dX11_init_142 : decode cX11_init 142 = .ok (.aload_n 0, 1) := by decide +kernel
theorem dX11_init_143 : decode cX11_init 143 = .ok (.getfield 55, 3) := by decide +kernel
theorem dX11_init_146 : decode cX11_init 146 = .ok (.invokespecial 70, 3) := by decide +kernel
theorem dX11_init_149 : decode cX11_init 149 = .ok (.putfield 73, 3) := by decide +kernel
theorem dX11_init_152 : decode cX11_init 152 = .ok (.aload_n 0, 1) := by decide +kernel
theorem dX11_init_153 : decode cX11_init 153 = .ok (.new 77, 3) := by decide +kernel
theorem dX11_init_156 : decode cX11_init 156 = .ok (.dup, 1) := by decide +kernel
theorem dX11_init_157 : decode cX11_init 157 = .ok (.bipush 99, 2) := by decide +kernel
theorem dX11_init_159 : decode cX11_init 159 = .ok (.invokespecial 79, 3) := by decide +kernel
theorem dX11_init_162 : decode cX11_init 162 = .ok (.putfield 80, 3) := by decide +kernel
theorem dX11_init_165 : decode cX11_init 165 = .ok (.aload_n 0, 1) := by decide +kernel
theorem dX11_init_166 : decode cX11_init 166 = .ok (.new 84, 3) := by decide +kernel
theorem dX11_init_169 : decode cX11_init 169 = .ok (.dup, 1) := by decide +kernel
theorem dX11_init_170 : decode cX11_init 170 = .ok (.aload_n 0, 1) := by decide +kernel
theorem dX11_init_171 : decode cX11_init 171 = .ok (.getfield 28, 3) := by decide +kernel
theorem dX11_init_174 : decode cX11_init 174 = .ok (.bipush 99, 2) := by decide +kernel
theorem dX11_init_176 : decode cX11_init 176 = .ok (.invokespecial 86, 3) := by decide +kernel
theorem dX11_init_179 : decode cX11_init 179 = .ok (.putfield 89, 3) := by decide +kernel
theorem dX11_init_182 : decode cX11_init 182 = .ok (.aload_n 0, 1) := by decide +kernel
theorem dX11_init_183 : decode cX11_init 183 = .ok (.new 84, 3) := by decide +kernel
theorem dX11_init_186 : decode cX11_init 186 = .ok (.dup, 1) := by decide +kernel
theorem dX11_init_187 : decode cX11_init 187 = .ok (.aload_n 0, 1) := by decide +kernel
theorem dX11_init_188 : decode cX11_init 188 = .ok (.getfield 28, 3) := by decide +kernel
theorem dX11_init_191 : decode cX11_init 191 = .ok (.bipush 25, 2) := by decide +kernel
theorem dX11_init_193 : decode cX11_init 193 = .ok (.invokespecial 86, 3) := by decide +kernel
theorem dX11_init_196 : decode cX11_init 196 = .ok (.putfield 93, 3) := by decide +kernel
theorem dX11_init_199 : decode cX11_init 199 = .ok (.return_, 1) := by decide +kernel
set_option maxRecDepth 20000 in
theorem ggX11_write_X9_append : GoodIn wsX11_write wsX9_append := goodIn_r _ [7, 8, 9, 23, 24] (by decide +kernel) (by decide +kernel)
set_option maxRecDepth 20000 in
theorem gX11_write_X9_append : GoodIn wsX11_write (wsV RX11 96 RX9 yX9_append wsX9_append) := goodIn_app (goodIn_of _ (by decide +kernel)) ggX11_write_X9_append
theorem dX11_write_0 : decode cX11_write 0 = .ok (.iload_n 1, 1) := by decide +kernel
theorem dX11_write_1 : decode cX11_write 1 = .ok (.iconst 1, 1) := by decide +kernel
theorem dX11_write_2 : decode cX11_write 2 = .ok (.if_icmp .lt 9, 3) := by decide +kernel
theorem dX11_write_5 : decode cX11_write 5 = .ok (.iload_n 1, 1) := by decide +kernel
theorem dX11_write_6 : decode cX11_write 6 = .ok (.bipush 8, 2) := by decide +kernel
theorem dX11_write_8 : decode cX11_write 8 = .ok (.if_icmp .le 5, 3) := by decide +kernel
theorem dX11_write_11 : decode cX11_write 11 = .ok (.iconst (-1), 1) := by decide +kernel
theorem dX11_write_12 : decode cX11_write 12 = .ok (.ireturn, 1) := by decide +kernel
theorem dX11_write_13 : decode cX11_write 13 = .ok (.aload_n 0, 1) := by decide +kernel
theorem dX11_write_14 : decode cX11_write 14 = .ok (.getfield 10, 3) := by decide +kernel
theorem dX11_write_17 : decode cX11_write 17 = .ok (.iload_n 1, 1) := by decide +kernel
theorem dX11_write_18 : decode cX11_write 18 = .ok (.lload_n 2, 1) := by decide +kernel
theorem dX11_write_19 : decode cX11_write 19 = .ok (.invokevirtual 96, 3) := by decide +kernel
theorem dX11_write_22 : decode cX11_write 22 = .ok (.ifCond .eq 13, 3) := by decide +kernel
theorem dX11_write_25 : decode cX11_write 25 = .ok (.aload_n 0, 1) := by decide +kernel
theorem dX11_write_26 : decode cX11_write 26 = .ok (.getfield 10, 3) := by decide +kernel
theorem dX11_write_29 : decode cX11_write 29 = .ok (.getfield 100, 3) := by decide +kernel
theorem dX11_write_32 : decode cX11_write 32 = .ok (.goto 5, 3) := by decide +kernel
theorem dX11_write_35 : decode cX11_write 35 = .ok (.bipush (-3), 2) := by decide +kernel
theorem dX11_write_37 : decode cX11_write 37 = .ok (.ireturn, 1) := by decide +kernel
theorem dX11_wipe_0 : decode cX11_wipe 0 = .ok (.aload_n 0, 1) := by decide +kernel
theorem dX11_wipe_1 : decode cX11_wipe 1 = .ok (.getfield 10, 3) := by decide +kernel
theorem dX11_wipe_4 : decode cX11_wipe 4 = .ok (.getfield 100, 3) := by decide +kernel
theorem dX11_wipe_7 : decode cX11_wipe 7 = .ok (.istore_n 1, 1) := by decide +kernel
theorem dX11_wipe_8 : decode cX11_wipe 8 = .ok (.aload_n 0, 1) := by decide +kernel
theorem dX11_wipe_9 : decode cX11_wipe 9 = .ok (.getfield 10, 3) := by decide +kernel
theorem dX11_wipe_12 : decode cX11_wipe 12 = .ok (.iconst 0, 1) := by decide +kernel
theorem dX11_wipe_13 : decode cX11_wipe 13 = .ok (.putfield 100, 3) := by decide +kernel
theorem dX11_wipe_16 : decode cX11_wipe 16 = .ok (.iload_n 1, 1) := by decide +kernel
theorem dX11_wipe_17 : decode cX11_wipe 17 = .ok (.ireturn, 1) := by decide +kernel
set_option maxRecDepth 20000 in
theorem ggX11_fault_X4_firstFault : GoodIn wsX11_fault wsX4_firstFault := goodIn_r _ [6, 7, 8, 9, 10, 11, 12, 13, 14, 15, 16, 17, 18, 19, 20, 21, 22, 23, 24, 25, 26, 5, 27, 28, 29, 30, 31, 32, 33, 34, 35, 36, 37, 38, 39, 40, 41, 42, 43, 44, 45, 46, 47, 48, 49, 50, 51, 52, 53, 54, 55, 56, 57, 58, 59, 60, 61, 62, 63, 64, 65, 66, 67, 68, 69, 70, 71, 72, 73, 74, 75, 76, 77, 78, 79, 80, 81, 82, 83, 84, 85, 86, 87, 88, 89, 90, 91, 92, 93, 94, 95, 96, 97, 98, 112, 113, 114, 115, 116, 117, 118, 119, 120, 121, 122, 123, 124, 125, 126, 127, 128, 129] (by decide +kernel) (by decide +kernel)
set_option maxRecDepth 20000 in
theorem gX11_fault_X4_firstFault : GoodIn wsX11_fault (wsV RX11 104 RX4 yX4_firstFault wsX4_firstFault) := goodIn_app (goodIn_of _ (by decide +kernel)) ggX11_fault_X4_firstFault
theorem dX11_fault_0 : decode cX11_fault 0 = .ok (.aload_n 0, 1) := by decide +kernel
theorem dX11_fault_1 : decode cX11_fault 1 = .ok (.getfield 21, 3) := by decide +kernel
theorem dX11_fault_4 : decode cX11_fault 4 = .ok (.invokevirtual 104, 3) := by decide +kernel
theorem dX11_fault_7 : decode cX11_fault 7 = .ok (.ireturn, 1) := by decide +kernel
set_option maxRecDepth 20000 in
theorem ggX11_lay_X4_firstFault : GoodIn wsX11_lay wsX4_firstFault := goodIn_r _ [19, 20, 21, 22, 23, 24, 25, 26, 27, 28, 29, 30, 31, 32, 33, 34, 35, 36, 37, 38, 39, 18, 40, 41, 42, 43, 44, 45, 46, 47, 48, 49, 50, 51, 52, 53, 54, 55, 56, 57, 58, 59, 60, 61, 62, 63, 64, 65, 66, 67, 68, 69, 70, 71, 72, 73, 74, 75, 76, 77, 78, 79, 80, 81, 82, 83, 84, 85, 86, 87, 88, 89, 90, 91, 92, 93, 94, 95, 96, 97, 98, 99, 100, 101, 102, 103, 104, 105, 106, 107, 108, 109, 110, 111, 133, 134, 135, 136, 137, 163, 164, 156, 157, 158, 159, 160, 161, 162, 165, 166, 143, 144] (by decide +kernel) (by decide +kernel)
set_option maxRecDepth 20000 in
theorem gX11_lay_X4_firstFault : GoodIn wsX11_lay (wsV RX11 104 RX4 yX4_firstFault wsX4_firstFault) := goodIn_app (goodIn_of _ (by decide +kernel)) ggX11_lay_X4_firstFault
set_option maxRecDepth 20000 in
theorem ggX11_lay_X2_copyFrom : GoodIn wsX11_lay wsX2_copyFrom := goodIn_r _ [115, 29, 31, 32, 33, 34, 36, 116, 117, 118, 96, 119, 98, 99, 104, 105, 106, 89, 107, 91, 92, 108, 109, 110, 111, 156, 157, 158, 159, 160, 161, 162, 165, 166, 143, 144] (by decide +kernel) (by decide +kernel)
set_option maxRecDepth 20000 in
theorem gX11_lay_X2_copyFrom : GoodIn wsX11_lay (wsV RX11 111 RX2 yX2_copyFrom wsX2_copyFrom) := goodIn_app (goodIn_of _ (by decide +kernel)) ggX11_lay_X2_copyFrom
theorem dX11_lay_0 : decode cX11_lay 0 = .ok (.aload_n 0, 1) := by decide +kernel
theorem dX11_lay_1 : decode cX11_lay 1 = .ok (.getfield 21, 3) := by decide +kernel
theorem dX11_lay_4 : decode cX11_lay 4 = .ok (.invokevirtual 104, 3) := by decide +kernel
theorem dX11_lay_7 : decode cX11_lay 7 = .ok (.bipush (-4), 2) := by decide +kernel
theorem dX11_lay_9 : decode cX11_lay 9 = .ok (.if_icmp .eq 6, 3) := by decide +kernel
theorem dX11_lay_12 : decode cX11_lay 12 = .ok (.bipush (-2), 2) := by decide +kernel
theorem dX11_lay_14 : decode cX11_lay 14 = .ok (.ireturn, 1) := by decide +kernel
theorem dX11_lay_15 : decode cX11_lay 15 = .ok (.aload_n 0, 1) := by decide +kernel
theorem dX11_lay_16 : decode cX11_lay 16 = .ok (.getfield 28, 3) := by decide +kernel
theorem dX11_lay_19 : decode cX11_lay 19 = .ok (.aload_n 0, 1) := by decide +kernel
theorem dX11_lay_20 : decode cX11_lay 20 = .ok (.getfield 21, 3) := by decide +kernel
theorem dX11_lay_23 : decode cX11_lay 23 = .ok (.getfield 108, 3) := by decide +kernel
theorem dX11_lay_26 : decode cX11_lay 26 = .ok (.invokevirtual 111, 3) := by decide +kernel
theorem dX11_lay_29 : decode cX11_lay 29 = .ok (.aload_n 0, 1) := by decide +kernel
theorem dX11_lay_30 : decode cX11_lay 30 = .ok (.getfield 35, 3) := by decide +kernel
theorem dX11_lay_33 : decode cX11_lay 33 = .ok (.iconst 0, 1) := by decide +kernel
theorem dX11_lay_34 : decode cX11_lay 34 = .ok (.putfield 115, 3) := by decide +kernel
theorem dX11_lay_37 : decode cX11_lay 37 = .ok (.aload_n 0, 1) := by decide +kernel
theorem dX11_lay_38 : decode cX11_lay 38 = .ok (.getfield 35, 3) := by decide +kernel
theorem dX11_lay_41 : decode cX11_lay 41 = .ok (.iconst 0, 1) := by decide +kernel
theorem dX11_lay_42 : decode cX11_lay 42 = .ok (.putfield 116, 3) := by decide +kernel
theorem dX11_lay_45 : decode cX11_lay 45 = .ok (.aload_n 0, 1) := by decide +kernel
theorem dX11_lay_46 : decode cX11_lay 46 = .ok (.getfield 55, 3) := by decide +kernel
theorem dX11_lay_49 : decode cX11_lay 49 = .ok (.iconst 0, 1) := by decide +kernel
theorem dX11_lay_50 : decode cX11_lay 50 = .ok (.putfield 119, 3) := by decide +kernel
theorem dX11_lay_53 : decode cX11_lay 53 = .ok (.aload_n 0, 1) := by decide +kernel
theorem dX11_lay_54 : decode cX11_lay 54 = .ok (.getfield 64, 3) := by decide +kernel
theorem dX11_lay_57 : decode cX11_lay 57 = .ok (.iconst 0, 1) := by decide +kernel
theorem dX11_lay_58 : decode cX11_lay 58 = .ok (.putfield 120, 3) := by decide +kernel
theorem dX11_lay_61 : decode cX11_lay 61 = .ok (.aload_n 0, 1) := by decide +kernel
theorem dX11_lay_62 : decode cX11_lay 62 = .ok (.getfield 42, 3) := by decide +kernel
theorem dX11_lay_65 : decode cX11_lay 65 = .ok (.iconst 0, 1) := by decide +kernel
theorem dX11_lay_66 : decode cX11_lay 66 = .ok (.putfield 121, 3) := by decide +kernel
theorem dX11_lay_69 : decode cX11_lay 69 = .ok (.aload_n 0, 1) := by decide +kernel
theorem dX11_lay_70 : decode cX11_lay 70 = .ok (.iconst 0, 1) := by decide +kernel
theorem dX11_lay_71 : decode cX11_lay 71 = .ok (.putfield 122, 3) := by decide +kernel
theorem dX11_lay_74 : decode cX11_lay 74 = .ok (.aload_n 0, 1) := by decide +kernel
theorem dX11_lay_75 : decode cX11_lay 75 = .ok (.getfield 28, 3) := by decide +kernel
theorem dX11_lay_78 : decode cX11_lay 78 = .ok (.getfield 125, 3) := by decide +kernel
theorem dX11_lay_81 : decode cX11_lay 81 = .ok (.ireturn, 1) := by decide +kernel
set_option maxRecDepth 20000 in
theorem ggX11_delay_X2_isPlace : GoodIn wsX11_delay wsX2_isPlace := goodIn_r _ [6, 7, 27, 28, 29, 30, 31, 32, 33] (by decide +kernel) (by decide +kernel)
set_option maxRecDepth 20000 in
theorem gX11_delay_X2_isPlace : GoodIn wsX11_delay (wsV RX11 128 RX2 yX2_isPlace wsX2_isPlace) := goodIn_app (goodIn_of _ (by decide +kernel)) ggX11_delay_X2_isPlace
set_option maxRecDepth 20000 in
theorem ggX11_delay_X2_minutesBetween : GoodIn wsX11_delay wsX2_minutesBetween := goodIn_r _ [11, 12, 13, 3, 4, 5, 6, 7, 27, 28, 29, 30, 31, 32, 33] (by decide +kernel) (by decide +kernel)
set_option maxRecDepth 20000 in
theorem gX11_delay_X2_minutesBetween : GoodIn wsX11_delay (wsV RX11 132 RX2 yX2_minutesBetween wsX2_minutesBetween) := goodIn_app (goodIn_of _ (by decide +kernel)) ggX11_delay_X2_minutesBetween
theorem dX11_delay_0 : decode cX11_delay 0 = .ok (.aload_n 0, 1) := by decide +kernel
theorem dX11_delay_1 : decode cX11_delay 1 = .ok (.getfield 28, 3) := by decide +kernel
theorem dX11_delay_4 : decode cX11_delay 4 = .ok (.iload_n 1, 1) := by decide +kernel
theorem dX11_delay_5 : decode cX11_delay 5 = .ok (.invokevirtual 128, 3) := by decide +kernel
theorem dX11_delay_8 : decode cX11_delay 8 = .ok (.ifCond .eq 14, 3) := by decide +kernel
theorem dX11_delay_11 : decode cX11_delay 11 = .ok (.aload_n 0, 1) := by decide +kernel
theorem dX11_delay_12 : decode cX11_delay 12 = .ok (.getfield 28, 3) := by decide +kernel
theorem dX11_delay_15 : decode cX11_delay 15 = .ok (.iload_n 2, 1) := by decide +kernel
theorem dX11_delay_16 : decode cX11_delay 16 = .ok (.invokevirtual 128, 3) := by decide +kernel
theorem dX11_delay_19 : decode cX11_delay 19 = .ok (.ifCond .ne 5, 3) := by decide +kernel
theorem dX11_delay_22 : decode cX11_delay 22 = .ok (.iconst (-1), 1) := by decide +kernel
theorem dX11_delay_23 : decode cX11_delay 23 = .ok (.ireturn, 1) := by decide +kernel
theorem dX11_delay_24 : decode cX11_delay 24 = .ok (.aload_n 0, 1) := by decide +kernel
theorem dX11_delay_25 : decode cX11_delay 25 = .ok (.getfield 28, 3) := by decide +kernel
theorem dX11_delay_28 : decode cX11_delay 28 = .ok (.iload_n 1, 1) := by decide +kernel
theorem dX11_delay_29 : decode cX11_delay 29 = .ok (.iload_n 2, 1) := by decide +kernel
theorem dX11_delay_30 : decode cX11_delay 30 = .ok (.invokevirtual 132, 3) := by decide +kernel
theorem dX11_delay_33 : decode cX11_delay 33 = .ok (.ireturn, 1) := by decide +kernel
set_option maxRecDepth 20000 in
theorem ggX11_word_X1_isWord : GoodIn wsX11_word wsX1_isWord := goodIn_r _ [10, 11, 32, 33] (by decide +kernel) (by decide +kernel)
set_option maxRecDepth 20000 in
theorem gX11_word_X1_isWord : GoodIn wsX11_word (wsV RX11 140 RX1 yX1_isWord wsX1_isWord) := goodIn_app (goodIn_of _ (by decide +kernel)) ggX11_word_X1_isWord
theorem dX11_word_0 : decode cX11_word 0 = .ok (.aload_n 0, 1) := by decide +kernel
theorem dX11_word_1 : decode cX11_word 1 = .ok (.getfield 28, 3) := by decide +kernel
theorem dX11_word_4 : decode cX11_word 4 = .ok (.getfield 136, 3) := by decide +kernel
theorem dX11_word_7 : decode cX11_word 7 = .ok (.iload_n 1, 1) := by decide +kernel
theorem dX11_word_8 : decode cX11_word 8 = .ok (.invokevirtual 140, 3) := by decide +kernel
theorem dX11_word_11 : decode cX11_word 11 = .ok (.ifCond .eq 7, 3) := by decide +kernel
theorem dX11_word_14 : decode cX11_word 14 = .ok (.iload_n 2, 1) := by decide +kernel
theorem dX11_word_15 : decode cX11_word 15 = .ok (.ifCond .ge 5, 3) := by decide +kernel
theorem dX11_word_18 : decode cX11_word 18 = .ok (.iconst (-1), 1) := by decide +kernel
theorem dX11_word_19 : decode cX11_word 19 = .ok (.ireturn, 1) := by decide +kernel
theorem dX11_word_20 : decode cX11_word 20 = .ok (.aload_n 0, 1) := by decide +kernel
theorem dX11_word_21 : decode cX11_word 21 = .ok (.getfield 28, 3) := by decide +kernel
theorem dX11_word_24 : decode cX11_word 24 = .ok (.getfield 136, 3) := by decide +kernel
theorem dX11_word_27 : decode cX11_word 27 = .ok (.getfield 145, 3) := by decide +kernel
theorem dX11_word_30 : decode cX11_word 30 = .ok (.iload_n 1, 1) := by decide +kernel
theorem dX11_word_31 : decode cX11_word 31 = .ok (.aaload, 1) := by decide +kernel
theorem dX11_word_32 : decode cX11_word 32 = .ok (.astore_n 3, 1) := by decide +kernel
theorem dX11_word_33 : decode cX11_word 33 = .ok (.iload_n 2, 1) := by decide +kernel
theorem dX11_word_34 : decode cX11_word 34 = .ok (.aload_n 3, 1) := by decide +kernel
theorem dX11_word_35 : decode cX11_word 35 = .ok (.getfield 119, 3) := by decide +kernel
theorem dX11_word_38 : decode cX11_word 38 = .ok (.if_icmp .ge 12, 3) := by decide +kernel
theorem dX11_word_41 : decode cX11_word 41 = .ok (.aload_n 3, 1) := by decide +kernel
theorem dX11_word_42 : decode cX11_word 42 = .ok (.getfield 149, 3) := by decide +kernel
theorem dX11_word_45 : decode cX11_word 45 = .ok (.iload_n 2, 1) := by decide +kernel
theorem dX11_word_46 : decode cX11_word 46 = .ok (.iaload, 1) := by decide +kernel
theorem dX11_word_47 : decode cX11_word 47 = .ok (.goto 5, 3) := by decide +kernel
theorem dX11_word_50 : decode cX11_word 50 = .ok (.bipush (-4), 2) := by decide +kernel
theorem dX11_word_52 : decode cX11_word 52 = .ok (.ireturn, 1) := by decide +kernel
set_option maxRecDepth 20000 in
theorem ggX11_drum_X2_isPlace : GoodIn wsX11_drum wsX2_isPlace := goodIn_r _ [9, 10, 55, 56, 57, 58, 59, 60, 61] (by decide +kernel) (by decide +kernel)
set_option maxRecDepth 20000 in
theorem gX11_drum_X2_isPlace : GoodIn wsX11_drum (wsV RX11 128 RX2 yX2_isPlace wsX2_isPlace) := goodIn_app (goodIn_of _ (by decide +kernel)) ggX11_drum_X2_isPlace
set_option maxRecDepth 20000 in
theorem ggX11_drum_X2_isSort : GoodIn wsX11_drum wsX2_isSort := goodIn_r _ [14, 15, 55, 56, 57, 58, 59, 60, 61] (by decide +kernel) (by decide +kernel)
set_option maxRecDepth 20000 in
theorem gX11_drum_X2_isSort : GoodIn wsX11_drum (wsV RX11 153 RX2 yX2_isSort wsX2_isSort) := goodIn_app (goodIn_of _ (by decide +kernel)) ggX11_drum_X2_isSort
set_option maxRecDepth 20000 in
theorem ggX11_drum_X0_append : GoodIn wsX11_drum wsX0_append := goodIn_r _ [20, 21, 22, 23, 24, 25, 50, 51, 52, 53, 54] (by decide +kernel) (by decide +kernel)
set_option maxRecDepth 20000 in
theorem gX11_drum_X0_append : GoodIn wsX11_drum (wsV RX11 156 RX0 yX0_append wsX0_append) := goodIn_app (goodIn_of _ (by decide +kernel)) ggX11_drum_X0_append
set_option maxRecDepth 20000 in
theorem ggX11_drum_X8_append : GoodIn wsX11_drum wsX8_append := goodIn_r _ [30, 31, 32, 33, 34, 35, 36, 62, 63] (by decide +kernel) (by decide +kernel)
set_option maxRecDepth 20000 in
theorem gX11_drum_X8_append : GoodIn wsX11_drum (wsV RX11 159 RX8 yX8_append wsX8_append) := goodIn_app (goodIn_of _ (by decide +kernel)) ggX11_drum_X8_append
theorem dX11_drum_0 : decode cX11_drum 0 = .ok (.aload_n 0, 1) := by decide +kernel
theorem dX11_drum_1 : decode cX11_drum 1 = .ok (.getfield 28, 3) := by decide +kernel
theorem dX11_drum_4 : decode cX11_drum 4 = .ok (.iload_n 1, 1) := by decide +kernel
theorem dX11_drum_5 : decode cX11_drum 5 = .ok (.invokevirtual 128, 3) := by decide +kernel
theorem dX11_drum_8 : decode cX11_drum 8 = .ok (.ifCond .eq 14, 3) := by decide +kernel
theorem dX11_drum_11 : decode cX11_drum 11 = .ok (.aload_n 0, 1) := by decide +kernel
theorem dX11_drum_12 : decode cX11_drum 12 = .ok (.getfield 28, 3) := by decide +kernel
theorem dX11_drum_15 : decode cX11_drum 15 = .ok (.iload_n 2, 1) := by decide +kernel
theorem dX11_drum_16 : decode cX11_drum 16 = .ok (.invokevirtual 153, 3) := by decide +kernel
theorem dX11_drum_19 : decode cX11_drum 19 = .ok (.ifCond .ne 5, 3) := by decide +kernel
theorem dX11_drum_22 : decode cX11_drum 22 = .ok (.iconst (-1), 1) := by decide +kernel
theorem dX11_drum_23 : decode cX11_drum 23 = .ok (.ireturn, 1) := by decide +kernel
theorem dX11_drum_24 : decode cX11_drum 24 = .ok (.aload_n 0, 1) := by decide +kernel
theorem dX11_drum_25 : decode cX11_drum 25 = .ok (.getfield 35, 3) := by decide +kernel
theorem dX11_drum_28 : decode cX11_drum 28 = .ok (.iload_n 1, 1) := by decide +kernel
theorem dX11_drum_29 : decode cX11_drum 29 = .ok (.iload_n 2, 1) := by decide +kernel
theorem dX11_drum_30 : decode cX11_drum 30 = .ok (.invokevirtual 156, 3) := by decide +kernel
theorem dX11_drum_33 : decode cX11_drum 33 = .ok (.ifCond .ne 6, 3) := by decide +kernel
theorem dX11_drum_36 : decode cX11_drum 36 = .ok (.bipush (-3), 2) := by decide +kernel
theorem dX11_drum_38 : decode cX11_drum 38 = .ok (.ireturn, 1) := by decide +kernel
theorem dX11_drum_39 : decode cX11_drum 39 = .ok (.aload_n 0, 1) := by decide +kernel
theorem dX11_drum_40 : decode cX11_drum 40 = .ok (.getfield 42, 3) := by decide +kernel
theorem dX11_drum_43 : decode cX11_drum 43 = .ok (.iconst 0, 1) := by decide +kernel
theorem dX11_drum_44 : decode cX11_drum 44 = .ok (.invokevirtual 159, 3) := by decide +kernel
theorem dX11_drum_47 : decode cX11_drum 47 = .ok (.aload_n 0, 1) := by decide +kernel
theorem dX11_drum_48 : decode cX11_drum 48 = .ok (.getfield 35, 3) := by decide +kernel
theorem dX11_drum_51 : decode cX11_drum 51 = .ok (.getfield 115, 3) := by decide +kernel
theorem dX11_drum_54 : decode cX11_drum 54 = .ok (.ireturn, 1) := by decide +kernel
set_option maxRecDepth 20000 in
theorem ggX11_pass_X8_append : GoodIn wsX11_pass wsX8_append := goodIn_r _ [8, 9, 10, 11, 12, 13, 14, 33, 34] (by decide +kernel) (by decide +kernel)
set_option maxRecDepth 20000 in
theorem gX11_pass_X8_append : GoodIn wsX11_pass (wsV RX11 159 RX8 yX8_append wsX8_append) := goodIn_app (goodIn_of _ (by decide +kernel)) ggX11_pass_X8_append
theorem dX11_pass_0 : decode cX11_pass 0 = .ok (.iload_n 1, 1) := by decide +kernel
theorem dX11_pass_1 : decode cX11_pass 1 = .ok (.iconst 1, 1) := by decide +kernel
theorem dX11_pass_2 : decode cX11_pass 2 = .ok (.if_icmp .lt 10, 3) := by decide +kernel
theorem dX11_pass_5 : decode cX11_pass 5 = .ok (.iload_n 1, 1) := by decide +kernel
theorem dX11_pass_6 : decode cX11_pass 6 = .ok (.sipush 600, 3) := by decide +kernel
theorem dX11_pass_9 : decode cX11_pass 9 = .ok (.if_icmp .le 5, 3) := by decide +kernel
theorem dX11_pass_12 : decode cX11_pass 12 = .ok (.iconst (-1), 1) := by decide +kernel
theorem dX11_pass_13 : decode cX11_pass 13 = .ok (.ireturn, 1) := by decide +kernel
theorem dX11_pass_14 : decode cX11_pass 14 = .ok (.aload_n 0, 1) := by decide +kernel
theorem dX11_pass_15 : decode cX11_pass 15 = .ok (.getfield 35, 3) := by decide +kernel
theorem dX11_pass_18 : decode cX11_pass 18 = .ok (.getfield 116, 3) := by decide +kernel
theorem dX11_pass_21 : decode cX11_pass 21 = .ok (.iload_n 1, 1) := by decide +kernel
theorem dX11_pass_22 : decode cX11_pass 22 = .ok (.iadd, 1) := by decide +kernel
theorem dX11_pass_23 : decode cX11_pass 23 = .ok (.sipush 9999, 3) := by decide +kernel
theorem dX11_pass_26 : decode cX11_pass 26 = .ok (.if_icmp .le 6, 3) := by decide +kernel
theorem dX11_pass_29 : decode cX11_pass 29 = .ok (.bipush (-2), 2) := by decide +kernel
theorem dX11_pass_31 : decode cX11_pass 31 = .ok (.ireturn, 1) := by decide +kernel
theorem dX11_pass_32 : decode cX11_pass 32 = .ok (.aload_n 0, 1) := by decide +kernel
theorem dX11_pass_33 : decode cX11_pass 33 = .ok (.getfield 35, 3) := by decide +kernel
theorem dX11_pass_36 : decode cX11_pass 36 = .ok (.dup, 1) := by decide +kernel
theorem dX11_pass_37 : decode cX11_pass 37 = .ok (.getfield 116, 3) := by decide +kernel
theorem dX11_pass_40 : decode cX11_pass 40 = .ok (.iload_n 1, 1) := by decide +kernel
theorem dX11_pass_41 : decode cX11_pass 41 = .ok (.iadd, 1) := by decide +kernel
theorem dX11_pass_42 : decode cX11_pass 42 = .ok (.putfield 116, 3) := by decide +kernel
theorem dX11_pass_45 : decode cX11_pass 45 = .ok (.aload_n 0, 1) := by decide +kernel
theorem dX11_pass_46 : decode cX11_pass 46 = .ok (.getfield 42, 3) := by decide +kernel
theorem dX11_pass_49 : decode cX11_pass 49 = .ok (.iload_n 1, 1) := by decide +kernel
theorem dX11_pass_50 : decode cX11_pass 50 = .ok (.invokevirtual 159, 3) := by decide +kernel
theorem dX11_pass_53 : decode cX11_pass 53 = .ok (.aload_n 0, 1) := by decide +kernel
theorem dX11_pass_54 : decode cX11_pass 54 = .ok (.getfield 35, 3) := by decide +kernel
theorem dX11_pass_57 : decode cX11_pass 57 = .ok (.getfield 116, 3) := by decide +kernel
theorem dX11_pass_60 : decode cX11_pass 60 = .ok (.ireturn, 1) := by decide +kernel
set_option maxRecDepth 20000 in
theorem ggX11_undo_X8_takeLatest : GoodIn wsX11_undo wsX8_takeLatest := goodIn_r _ [9, 10, 11, 31, 32] (by decide +kernel) (by decide +kernel)
set_option maxRecDepth 20000 in
theorem gX11_undo_X8_takeLatest : GoodIn wsX11_undo (wsV RX11 161 RX8 yX8_takeLatest wsX8_takeLatest) := goodIn_app (goodIn_of _ (by decide +kernel)) ggX11_undo_X8_takeLatest
set_option maxRecDepth 20000 in
theorem ggX11_undo_X0_dropLatest : GoodIn wsX11_undo wsX0_dropLatest := goodIn_r _ [16, 17, 33, 34, 35, 36, 37] (by decide +kernel) (by decide +kernel)
set_option maxRecDepth 20000 in
theorem gX11_undo_X0_dropLatest : GoodIn wsX11_undo (wsV RX11 164 RX0 yX0_dropLatest wsX0_dropLatest) := goodIn_app (goodIn_of _ (by decide +kernel)) ggX11_undo_X0_dropLatest
theorem dX11_undo_0 : decode cX11_undo 0 = .ok (.aload_n 0, 1) := by decide +kernel
theorem dX11_undo_1 : decode cX11_undo 1 = .ok (.getfield 42, 3) := by decide +kernel
theorem dX11_undo_4 : decode cX11_undo 4 = .ok (.getfield 121, 3) := by decide +kernel
theorem dX11_undo_7 : decode cX11_undo 7 = .ok (.ifCond .ne 6, 3) := by decide +kernel
theorem dX11_undo_10 : decode cX11_undo 10 = .ok (.bipush (-2), 2) := by decide +kernel
theorem dX11_undo_12 : decode cX11_undo 12 = .ok (.ireturn, 1) := by decide +kernel
theorem dX11_undo_13 : decode cX11_undo 13 = .ok (.aload_n 0, 1) := by decide +kernel
theorem dX11_undo_14 : decode cX11_undo 14 = .ok (.getfield 42, 3) := by decide +kernel
theorem dX11_undo_17 : decode cX11_undo 17 = .ok (.invokevirtual 161, 3) := by decide +kernel
theorem dX11_undo_20 : decode cX11_undo 20 = .ok (.istore_n 1, 1) := by decide +kernel
theorem dX11_undo_21 : decode cX11_undo 21 = .ok (.iload_n 1, 1) := by decide +kernel
theorem dX11_undo_22 : decode cX11_undo 22 = .ok (.ifCond .ne 13, 3) := by decide +kernel
theorem dX11_undo_25 : decode cX11_undo 25 = .ok (.aload_n 0, 1) := by decide +kernel
theorem dX11_undo_26 : decode cX11_undo 26 = .ok (.getfield 35, 3) := by decide +kernel
theorem dX11_undo_29 : decode cX11_undo 29 = .ok (.invokevirtual 164, 3) := by decide +kernel
theorem dX11_undo_32 : decode cX11_undo 32 = .ok (.goto 16, 3) := by decide +kernel
theorem dX11_undo_35 : decode cX11_undo 35 = .ok (.aload_n 0, 1) := by decide +kernel
theorem dX11_undo_36 : decode cX11_undo 36 = .ok (.getfield 35, 3) := by decide +kernel
theorem dX11_undo_39 : decode cX11_undo 39 = .ok (.dup, 1) := by decide +kernel
theorem dX11_undo_40 : decode cX11_undo 40 = .ok (.getfield 116, 3) := by decide +kernel
theorem dX11_undo_43 : decode cX11_undo 43 = .ok (.iload_n 1, 1) := by decide +kernel
theorem dX11_undo_44 : decode cX11_undo 44 = .ok (.isub, 1) := by decide +kernel
theorem dX11_undo_45 : decode cX11_undo 45 = .ok (.putfield 116, 3) := by decide +kernel
theorem dX11_undo_48 : decode cX11_undo 48 = .ok (.aload_n 0, 1) := by decide +kernel
theorem dX11_undo_49 : decode cX11_undo 49 = .ok (.getfield 42, 3) := by decide +kernel
theorem dX11_undo_52 : decode cX11_undo 52 = .ok (.getfield 121, 3) := by decide +kernel
theorem dX11_undo_55 : decode cX11_undo 55 = .ok (.ireturn, 1) := by decide +kernel
set_option maxRecDepth 20000 in
theorem ggX11_beat_X0_isBeat : GoodIn wsX11_beat wsX0_isBeat := goodIn_r _ [9, 10, 24, 25, 26, 27, 28] (by decide +kernel) (by decide +kernel)
set_option maxRecDepth 20000 in
theorem gX11_beat_X0_isBeat : GoodIn wsX11_beat (wsV RX11 167 RX0 yX0_isBeat wsX0_isBeat) := goodIn_app (goodIn_of _ (by decide +kernel)) ggX11_beat_X0_isBeat
theorem dX11_beat_0 : decode cX11_beat 0 = .ok (.aload_n 0, 1) := by decide +kernel
theorem dX11_beat_1 : decode cX11_beat 1 = .ok (.getfield 35, 3) := by decide +kernel
theorem dX11_beat_4 : decode cX11_beat 4 = .ok (.iload_n 1, 1) := by decide +kernel
theorem dX11_beat_5 : decode cX11_beat 5 = .ok (.invokevirtual 167, 3) := by decide +kernel
theorem dX11_beat_8 : decode cX11_beat 8 = .ok (.ifCond .ne 5, 3) := by decide +kernel
theorem dX11_beat_11 : decode cX11_beat 11 = .ok (.iconst (-1), 1) := by decide +kernel
theorem dX11_beat_12 : decode cX11_beat 12 = .ok (.ireturn, 1) := by decide +kernel
theorem dX11_beat_13 : decode cX11_beat 13 = .ok (.iload_n 2, 1) := by decide +kernel
theorem dX11_beat_14 : decode cX11_beat 14 = .ok (.tableswitch 56 0 2 #[26, 36, 46], 26) := by decide +kernel
theorem dX11_beat_40 : decode cX11_beat 40 = .ok (.aload_n 0, 1) := by decide +kernel
theorem dX11_beat_41 : decode cX11_beat 41 = .ok (.getfield 35, 3) := by decide +kernel
theorem dX11_beat_44 : decode cX11_beat 44 = .ok (.getfield 170, 3) := by decide +kernel
theorem dX11_beat_47 : decode cX11_beat 47 = .ok (.iload_n 1, 1) := by decide +kernel
theorem dX11_beat_48 : decode cX11_beat 48 = .ok (.iaload, 1) := by decide +kernel
theorem dX11_beat_49 : decode cX11_beat 49 = .ok (.ireturn, 1) := by decide +kernel
theorem dX11_beat_50 : decode cX11_beat 50 = .ok (.aload_n 0, 1) := by decide +kernel
theorem dX11_beat_51 : decode cX11_beat 51 = .ok (.getfield 35, 3) := by decide +kernel
theorem dX11_beat_54 : decode cX11_beat 54 = .ok (.getfield 173, 3) := by decide +kernel
theorem dX11_beat_57 : decode cX11_beat 57 = .ok (.iload_n 1, 1) := by decide +kernel
theorem dX11_beat_58 : decode cX11_beat 58 = .ok (.iaload, 1) := by decide +kernel
theorem dX11_beat_59 : decode cX11_beat 59 = .ok (.ireturn, 1) := by decide +kernel
theorem dX11_beat_60 : decode cX11_beat 60 = .ok (.aload_n 0, 1) := by decide +kernel
theorem dX11_beat_61 : decode cX11_beat 61 = .ok (.getfield 35, 3) := by decide +kernel
theorem dX11_beat_64 : decode cX11_beat 64 = .ok (.getfield 174, 3) := by decide +kernel
theorem dX11_beat_67 : decode cX11_beat 67 = .ok (.iload_n 1, 1) := by decide +kernel
theorem dX11_beat_68 : decode cX11_beat 68 = .ok (.iaload, 1) := by decide +kernel
theorem dX11_beat_69 : decode cX11_beat 69 = .ok (.ireturn, 1) := by decide +kernel
theorem dX11_beat_70 : decode cX11_beat 70 = .ok (.iconst (-1), 1) := by decide +kernel
theorem dX11_beat_71 : decode cX11_beat 71 = .ok (.ireturn, 1) := by decide +kernel
set_option maxRecDepth 20000 in
theorem ggX11_stands_X2_isPlace : GoodIn wsX11_stands wsX2_isPlace := goodIn_r _ [9, 10, 95, 96, 97, 98, 99, 100, 101] (by decide +kernel) (by decide +kernel)
set_option maxRecDepth 20000 in
theorem gX11_stands_X2_isPlace : GoodIn wsX11_stands (wsV RX11 128 RX2 yX2_isPlace wsX2_isPlace) := goodIn_app (goodIn_of _ (by decide +kernel)) ggX11_stands_X2_isPlace
set_option maxRecDepth 20000 in
theorem ggX11_stands_X11_isMinute : GoodIn wsX11_stands wsX11_isMinute := goodIn_r _ [14] (by decide +kernel) (by decide +kernel)
set_option maxRecDepth 20000 in
theorem gX11_stands_X11_isMinute : GoodIn wsX11_stands (va_wsS RX11 177 yX11_isMinute wsX11_isMinute) := goodIn_app (goodIn_of _ (by decide +kernel)) ggX11_stands_X11_isMinute
set_option maxRecDepth 20000 in
theorem ggX11_stands_X11_standAt : GoodIn wsX11_stands wsX11_standAt := goodIn_r _ [18, 19, 20, 1, 2, 21, 22, 23, 24, 25, 26, 27, 28, 29, 30, 31, 32, 33, 8, 34, 35, 36, 6, 7, 9, 10, 37, 38, 39, 40, 41, 42, 43, 44, 45, 46, 47, 48, 49, 50, 51, 52, 53, 54, 55, 56, 57, 58, 59, 60, 61, 62, 63, 64, 65, 66, 67, 68, 69, 70, 71, 72, 73, 74, 75, 76, 77, 78, 79, 80, 81, 82, 83, 84, 85, 86, 87, 88, 102, 103, 104, 105, 106, 107, 108, 109, 110, 95, 96, 97, 98, 99, 100, 101, 89, 90, 91, 92, 93, 94] (by decide +kernel) (by decide +kernel)
set_option maxRecDepth 20000 in
theorem gX11_stands_X11_standAt : GoodIn wsX11_stands (wsV RX11 180 RX11 yX11_standAt wsX11_standAt) := goodIn_app (goodIn_of _ (by decide +kernel)) ggX11_stands_X11_standAt
theorem dX11_stands_0 : decode cX11_stands 0 = .ok (.aload_n 0, 1) := by decide +kernel
theorem dX11_stands_1 : decode cX11_stands 1 = .ok (.getfield 28, 3) := by decide +kernel
theorem dX11_stands_4 : decode cX11_stands 4 = .ok (.iload_n 1, 1) := by decide +kernel
theorem dX11_stands_5 : decode cX11_stands 5 = .ok (.invokevirtual 128, 3) := by decide +kernel
theorem dX11_stands_8 : decode cX11_stands 8 = .ok (.ifCond .eq 15, 3) := by decide +kernel
theorem dX11_stands_11 : decode cX11_stands 11 = .ok (.iload_n 2, 1) := by decide +kernel
theorem dX11_stands_12 : decode cX11_stands 12 = .ok (.invokestatic 177, 3) := by decide +kernel
theorem dX11_stands_15 : decode cX11_stands 15 = .ok (.ifCond .eq 8, 3) := by decide +kernel
theorem dX11_stands_18 : decode cX11_stands 18 = .ok (.iload_n 3, 1) := by decide +kernel
theorem dX11_stands_19 : decode cX11_stands 19 = .ok (.iconst (-1), 1) := by decide +kernel
theorem dX11_stands_20 : decode cX11_stands 20 = .ok (.if_icmp .ge 5, 3) := by decide +kernel
theorem dX11_stands_23 : decode cX11_stands 23 = .ok (.iconst (-1), 1) := by decide +kernel
theorem dX11_stands_24 : decode cX11_stands 24 = .ok (.ireturn, 1) := by decide +kernel
theorem dX11_stands_25 : decode cX11_stands 25 = .ok (.aload_n 0, 1) := by decide +kernel
theorem dX11_stands_26 : decode cX11_stands 26 = .ok (.iload_n 1, 1) := by decide +kernel
theorem dX11_stands_27 : decode cX11_stands 27 = .ok (.iload_n 2, 1) := by decide +kernel
theorem dX11_stands_28 : decode cX11_stands 28 = .ok (.invokevirtual 180, 3) := by decide +kernel
theorem dX11_stands_31 : decode cX11_stands 31 = .ok (.iload_n 3, 1) := by decide +kernel
theorem dX11_stands_32 : decode cX11_stands 32 = .ok (.iconst (-1), 1) := by decide +kernel
theorem dX11_stands_33 : decode cX11_stands 33 = .ok (.if_icmp .ne 11, 3) := by decide +kernel
theorem dX11_stands_36 : decode cX11_stands 36 = .ok (.aload_n 0, 1) := by decide +kernel
theorem dX11_stands_37 : decode cX11_stands 37 = .ok (.getfield 89, 3) := by decide +kernel
theorem dX11_stands_40 : decode cX11_stands 40 = .ok (.getfield 184, 3) := by decide +kernel
theorem dX11_stands_43 : decode cX11_stands 43 = .ok (.ireturn, 1) := by decide +kernel
theorem dX11_stands_44 : decode cX11_stands 44 = .ok (.iload_n 3, 1) := by decide +kernel
theorem dX11_stands_45 : decode cX11_stands 45 = .ok (.aload_n 0, 1) := by decide +kernel
theorem dX11_stands_46 : decode cX11_stands 46 = .ok (.getfield 89, 3) := by decide +kernel
theorem dX11_stands_49 : decode cX11_stands 49 = .ok (.getfield 184, 3) := by decide +kernel
theorem dX11_stands_52 : decode cX11_stands 52 = .ok (.if_icmp .ge 15, 3) := by decide +kernel
theorem dX11_stands_55 : decode cX11_stands 55 = .ok (.aload_n 0, 1) := by decide +kernel
theorem dX11_stands_56 : decode cX11_stands 56 = .ok (.getfield 89, 3) := by decide +kernel
theorem dX11_stands_59 : decode cX11_stands 59 = .ok (.getfield 185, 3) := by decide +kernel
theorem dX11_stands_62 : decode cX11_stands 62 = .ok (.iload_n 3, 1) := by decide +kernel
theorem dX11_stands_63 : decode cX11_stands 63 = .ok (.iaload, 1) := by decide +kernel
theorem dX11_stands_64 : decode cX11_stands 64 = .ok (.goto 5, 3) := by decide +kernel
theorem dX11_stands_67 : decode cX11_stands 67 = .ok (.bipush (-4), 2) := by decide +kernel
theorem dX11_stands_69 : decode cX11_stands 69 = .ok (.ireturn, 1) := by decide +kernel
set_option maxRecDepth 20000 in
theorem ggX11_said_X2_isPlace : GoodIn wsX11_said wsX2_isPlace := goodIn_r _ [7, 8, 91, 92, 93, 94, 95, 96, 97] (by decide +kernel) (by decide +kernel)
set_option maxRecDepth 20000 in
theorem gX11_said_X2_isPlace : GoodIn wsX11_said (wsV RX11 128 RX2 yX2_isPlace wsX2_isPlace) := goodIn_app (goodIn_of _ (by decide +kernel)) ggX11_said_X2_isPlace
set_option maxRecDepth 20000 in
theorem ggX11_said_X11_isMinute : GoodIn wsX11_said wsX11_isMinute := goodIn_r _ [12] (by decide +kernel) (by decide +kernel)
set_option maxRecDepth 20000 in
theorem gX11_said_X11_isMinute : GoodIn wsX11_said (va_wsS RX11 177 yX11_isMinute wsX11_isMinute) := goodIn_app (goodIn_of _ (by decide +kernel)) ggX11_said_X11_isMinute
set_option maxRecDepth 20000 in
theorem ggX11_said_X11_standAt : GoodIn wsX11_said wsX11_standAt := goodIn_r _ [16, 17, 18, 1, 2, 19, 20, 21, 22, 23, 24, 25, 26, 27, 28, 29, 30, 31, 6, 32, 33, 34, 4, 5, 7, 8, 35, 36, 37, 38, 39, 40, 41, 42, 43, 44, 45, 46, 47, 48, 49, 50, 51, 52, 53, 54, 55, 56, 57, 58, 59, 60, 61, 62, 63, 64, 65, 66, 67, 68, 69, 70, 71, 72, 73, 78, 79, 80, 81, 82, 83, 84, 85, 86, 87, 88, 89, 90, 98, 99, 100, 101, 102, 103, 104, 105, 106, 91, 92, 93, 94, 95, 96, 97, 107, 108, 109, 110, 111, 112] (by decide +kernel) (by decide +kernel)
set_option maxRecDepth 20000 in
theorem gX11_said_X11_standAt : GoodIn wsX11_said (wsV RX11 180 RX11 yX11_standAt wsX11_standAt) := goodIn_app (goodIn_of _ (by decide +kernel)) ggX11_said_X11_standAt
set_option maxRecDepth 20000 in
theorem ggX11_said_X5_howManySaid : GoodIn wsX11_said wsX5_howManySaid := goodIn_r _ [77, 47, 62, 67, 69, 107, 108, 109, 110, 111, 112, 91, 92, 93, 94, 95, 96, 97] (by decide +kernel) (by decide +kernel)
set_option maxRecDepth 20000 in
theorem gX11_said_X5_howManySaid : GoodIn wsX11_said (wsV RX11 186 RX5 yX5_howManySaid wsX5_howManySaid) := goodIn_app (goodIn_of _ (by decide +kernel)) ggX11_said_X5_howManySaid
theorem dX11_said_0 : decode cX11_said 0 = .ok (.aload_n 0, 1) := by decide +kernel
theorem dX11_said_1 : decode cX11_said 1 = .ok (.getfield 28, 3) := by decide +kernel
theorem dX11_said_4 : decode cX11_said 4 = .ok (.iload_n 1, 1) := by decide +kernel
theorem dX11_said_5 : decode cX11_said 5 = .ok (.invokevirtual 128, 3) := by decide +kernel
theorem dX11_said_8 : decode cX11_said 8 = .ok (.ifCond .eq 10, 3) := by decide +kernel
theorem dX11_said_11 : decode cX11_said 11 = .ok (.iload_n 2, 1) := by decide +kernel
theorem dX11_said_12 : decode cX11_said 12 = .ok (.invokestatic 177, 3) := by decide +kernel
theorem dX11_said_15 : decode cX11_said 15 = .ok (.ifCond .ne 5, 3) := by decide +kernel
theorem dX11_said_18 : decode cX11_said 18 = .ok (.iconst (-1), 1) := by decide +kernel
theorem dX11_said_19 : decode cX11_said 19 = .ok (.ireturn, 1) := by decide +kernel
theorem dX11_said_20 : decode cX11_said 20 = .ok (.aload_n 0, 1) := by decide +kernel
theorem dX11_said_21 : decode cX11_said 21 = .ok (.iload_n 1, 1) := by decide +kernel
theorem dX11_said_22 : decode cX11_said 22 = .ok (.iload_n 2, 1) := by decide +kernel
theorem dX11_said_23 : decode cX11_said 23 = .ok (.invokevirtual 180, 3) := by decide +kernel
theorem dX11_said_26 : decode cX11_said 26 = .ok (.aload_n 0, 1) := by decide +kernel
theorem dX11_said_27 : decode cX11_said 27 = .ok (.getfield 89, 3) := by decide +kernel
theorem dX11_said_30 : decode cX11_said 30 = .ok (.iload_n 2, 1) := by decide +kernel
theorem dX11_said_31 : decode cX11_said 31 = .ok (.invokevirtual 186, 3) := by decide +kernel
theorem dX11_said_34 : decode cX11_said 34 = .ok (.ireturn, 1) := by decide +kernel
set_option maxRecDepth 20000 in
theorem ggX11_meaning_X2_isPlace : GoodIn wsX11_meaning wsX2_isPlace := goodIn_r _ [8, 9, 114, 115, 116, 117, 118, 119, 120] (by decide +kernel) (by decide +kernel)
set_option maxRecDepth 20000 in
theorem gX11_meaning_X2_isPlace : GoodIn wsX11_meaning (wsV RX11 128 RX2 yX2_isPlace wsX2_isPlace) := goodIn_app (goodIn_of _ (by decide +kernel)) ggX11_meaning_X2_isPlace
set_option maxRecDepth 20000 in
theorem ggX11_meaning_X11_isMinute : GoodIn wsX11_meaning wsX11_isMinute := goodIn_r _ [13] (by decide +kernel) (by decide +kernel)
set_option maxRecDepth 20000 in
theorem gX11_meaning_X11_isMinute : GoodIn wsX11_meaning (va_wsS RX11 177 yX11_isMinute wsX11_isMinute) := goodIn_app (goodIn_of _ (by decide +kernel)) ggX11_meaning_X11_isMinute
set_option maxRecDepth 20000 in
theorem ggX11_meaning_X11_standAt : GoodIn wsX11_meaning wsX11_standAt := goodIn_r _ [17, 18, 19, 1, 3, 20, 21, 22, 23, 24, 25, 26, 27, 28, 29, 30, 31, 32, 7, 33, 34, 35, 5, 6, 8, 9, 36, 37, 38, 39, 40, 41, 42, 43, 44, 45, 46, 47, 48, 49, 50, 51, 52, 53, 54, 55, 56, 57, 58, 59, 60, 61, 62, 63, 64, 65, 66, 67, 68, 69, 70, 71, 72, 73, 74, 101, 102, 103, 104, 105, 106, 107, 108, 109, 110, 111, 112, 113, 121, 122, 123, 124, 125, 126, 127, 128, 129, 114, 115, 116, 117, 118, 119, 120, 130, 131, 132, 133, 134, 135] (by decide +kernel) (by decide +kernel)
set_option maxRecDepth 20000 in
theorem gX11_meaning_X11_standAt : GoodIn wsX11_meaning (wsV RX11 180 RX11 yX11_standAt wsX11_standAt) := goodIn_app (goodIn_of _ (by decide +kernel)) ggX11_meaning_X11_standAt
set_option maxRecDepth 20000 in
theorem ggX11_meaning_X5_howManySaid : GoodIn wsX11_meaning wsX5_howManySaid := goodIn_r _ [78, 48, 63, 68, 70, 130, 131, 132, 133, 134, 135, 114, 115, 116, 117, 118, 119, 120] (by decide +kernel) (by decide +kernel)
set_option maxRecDepth 20000 in
theorem gX11_meaning_X5_howManySaid : GoodIn wsX11_meaning (wsV RX11 186 RX5 yX5_howManySaid wsX5_howManySaid) := goodIn_app (goodIn_of _ (by decide +kernel)) ggX11_meaning_X5_howManySaid
set_option maxRecDepth 20000 in
theorem ggX11_meaning_X1_wordRead : GoodIn wsX11_meaning wsX1_wordRead := goodIn_r _ [83, 84, 85, 86, 87, 88, 89, 90, 91, 92, 82, 93, 94, 95, 96, 97, 46, 98, 48, 99, 61, 100, 136, 137, 138, 139, 130, 131, 132, 133, 134, 135] (by decide +kernel) (by decide +kernel)
set_option maxRecDepth 20000 in
theorem gX11_meaning_X1_wordRead : GoodIn wsX11_meaning (wsV RX11 190 RX1 yX1_wordRead wsX1_wordRead) := goodIn_app (goodIn_of _ (by decide +kernel)) ggX11_meaning_X1_wordRead
theorem dX11_meaning_0 : decode cX11_meaning 0 = .ok (.aload_n 0, 1) := by decide +kernel
theorem dX11_meaning_1 : decode cX11_meaning 1 = .ok (.getfield 28, 3) := by decide +kernel
theorem dX11_meaning_4 : decode cX11_meaning 4 = .ok (.iload_n 1, 1) := by decide +kernel
theorem dX11_meaning_5 : decode cX11_meaning 5 = .ok (.invokevirtual 128, 3) := by decide +kernel
theorem dX11_meaning_8 : decode cX11_meaning 8 = .ok (.ifCond .eq 14, 3) := by decide +kernel
theorem dX11_meaning_11 : decode cX11_meaning 11 = .ok (.iload_n 2, 1) := by decide +kernel
theorem dX11_meaning_12 : decode cX11_meaning 12 = .ok (.invokestatic 177, 3) := by decide +kernel
theorem dX11_meaning_15 : decode cX11_meaning 15 = .ok (.ifCond .eq 7, 3) := by decide +kernel
theorem dX11_meaning_18 : decode cX11_meaning 18 = .ok (.iload_n 3, 1) := by decide +kernel
theorem dX11_meaning_19 : decode cX11_meaning 19 = .ok (.ifCond .ge 5, 3) := by decide +kernel
theorem dX11_meaning_22 : decode cX11_meaning 22 = .ok (.iconst (-1), 1) := by decide +kernel
theorem dX11_meaning_23 : decode cX11_meaning 23 = .ok (.ireturn, 1) := by decide +kernel
theorem dX11_meaning_24 : decode cX11_meaning 24 = .ok (.aload_n 0, 1) := by decide +kernel
theorem dX11_meaning_25 : decode cX11_meaning 25 = .ok (.iload_n 1, 1) := by decide +kernel
theorem dX11_meaning_26 : decode cX11_meaning 26 = .ok (.iload_n 2, 1) := by decide +kernel
theorem dX11_meaning_27 : decode cX11_meaning 27 = .ok (.invokevirtual 180, 3) := by decide +kernel
theorem dX11_meaning_30 : decode cX11_meaning 30 = .ok (.aload_n 0, 1) := by decide +kernel
theorem dX11_meaning_31 : decode cX11_meaning 31 = .ok (.getfield 28, 3) := by decide +kernel
theorem dX11_meaning_34 : decode cX11_meaning 34 = .ok (.getfield 136, 3) := by decide +kernel
theorem dX11_meaning_37 : decode cX11_meaning 37 = .ok (.aload_n 0, 1) := by decide +kernel
theorem dX11_meaning_38 : decode cX11_meaning 38 = .ok (.getfield 89, 3) := by decide +kernel
theorem dX11_meaning_41 : decode cX11_meaning 41 = .ok (.aload_n 0, 1) := by decide +kernel
theorem dX11_meaning_42 : decode cX11_meaning 42 = .ok (.getfield 89, 3) := by decide +kernel
theorem dX11_meaning_45 : decode cX11_meaning 45 = .ok (.iload_n 2, 1) := by decide +kernel
theorem dX11_meaning_46 : decode cX11_meaning 46 = .ok (.invokevirtual 186, 3) := by decide +kernel
theorem dX11_meaning_49 : decode cX11_meaning 49 = .ok (.iload_n 3, 1) := by decide +kernel
theorem dX11_meaning_50 : decode cX11_meaning 50 = .ok (.invokevirtual 190, 3) := by decide +kernel
theorem dX11_meaning_53 : decode cX11_meaning 53 = .ok (.ireturn, 1) := by decide +kernel
set_option maxRecDepth 20000 in
theorem ggX11_unsay_X2_isPlace : GoodIn wsX11_unsay wsX2_isPlace := goodIn_r _ [12, 13, 110, 111, 112, 113, 114, 115, 116] (by decide +kernel) (by decide +kernel)
set_option maxRecDepth 20000 in
theorem gX11_unsay_X2_isPlace : GoodIn wsX11_unsay (wsV RX11 128 RX2 yX2_isPlace wsX2_isPlace) := goodIn_app (goodIn_of _ (by decide +kernel)) ggX11_unsay_X2_isPlace
set_option maxRecDepth 20000 in
theorem ggX11_unsay_X11_standAt : GoodIn wsX11_unsay wsX11_standAt := goodIn_r _ [18, 19, 2, 1, 4, 20, 21, 22, 23, 24, 25, 26, 27, 28, 29, 30, 31, 32, 11, 33, 34, 35, 9, 10, 12, 13, 36, 37, 38, 39, 40, 41, 42, 43, 44, 45, 46, 47, 48, 49, 50, 51, 52, 53, 54, 55, 56, 57, 58, 59, 60, 61, 62, 63, 64, 65, 66, 67, 68, 69, 70, 71, 72, 73, 74, 86, 87, 88, 89, 90, 91, 92, 93, 94, 95, 96, 97, 98, 117, 118, 119, 120, 99, 100, 101, 102, 103, 110, 111, 112, 113, 114, 115, 116, 104, 105, 106, 107, 108, 109] (by decide +kernel) (by decide +kernel)
set_option maxRecDepth 20000 in
theorem gX11_unsay_X11_standAt : GoodIn wsX11_unsay (wsV RX11 180 RX11 yX11_standAt wsX11_standAt) := goodIn_app (goodIn_of _ (by decide +kernel)) ggX11_unsay_X11_standAt
set_option maxRecDepth 20000 in
theorem ggX11_unsay_X11_goesBy : GoodIn wsX11_unsay wsX11_goesBy := goodIn_r _ [78, 2, 3, 1, 79, 19, 80, 31, 32, 11, 33, 34, 35, 9, 10, 12, 13, 43, 44, 45, 46, 47, 48, 49, 50, 51, 52, 53, 54, 55, 56, 57, 58, 59, 60, 61, 62, 63, 64, 65, 66, 67, 68, 69, 70, 71, 72, 73, 74, 81, 82, 83, 84, 85, 86, 87, 88, 89, 90, 91, 92, 93, 94, 95, 96, 97, 98, 99, 100, 101, 102, 103, 110, 111, 112, 113, 114, 115, 116, 104, 105, 106, 107, 108, 109, 117, 118, 119, 120] (by decide +kernel) (by decide +kernel)
set_option maxRecDepth 20000 in
theorem gX11_unsay_X11_goesBy : GoodIn wsX11_unsay (wsV RX11 197 RX11 yX11_goesBy wsX11_goesBy) := goodIn_app (goodIn_of _ (by decide +kernel)) ggX11_unsay_X11_goesBy
theorem dX11_unsay_0 : decode cX11_unsay 0 = .ok (.aload_n 0, 1) := by decide +kernel
theorem dX11_unsay_1 : decode cX11_unsay 1 = .ok (.getfield 28, 3) := by decide +kernel
theorem dX11_unsay_4 : decode cX11_unsay 4 = .ok (.iload_n 1, 1) := by decide +kernel
theorem dX11_unsay_5 : decode cX11_unsay 5 = .ok (.invokevirtual 128, 3) := by decide +kernel
theorem dX11_unsay_8 : decode cX11_unsay 8 = .ok (.ifCond .eq 18, 3) := by decide +kernel
theorem dX11_unsay_11 : decode cX11_unsay 11 = .ok (.aload_n 0, 1) := by decide +kernel
theorem dX11_unsay_12 : decode cX11_unsay 12 = .ok (.getfield 28, 3) := by decide +kernel
theorem dX11_unsay_15 : decode cX11_unsay 15 = .ok (.iload_n 3, 1) := by decide +kernel
theorem dX11_unsay_16 : decode cX11_unsay 16 = .ok (.invokevirtual 128, 3) := by decide +kernel
theorem dX11_unsay_19 : decode cX11_unsay 19 = .ok (.ifCond .eq 7, 3) := by decide +kernel
theorem dX11_unsay_22 : decode cX11_unsay 22 = .ok (.iload_n 2, 1) := by decide +kernel
theorem dX11_unsay_23 : decode cX11_unsay 23 = .ok (.ifCond .ge 5, 3) := by decide +kernel
theorem dX11_unsay_26 : decode cX11_unsay 26 = .ok (.iconst (-1), 1) := by decide +kernel
theorem dX11_unsay_27 : decode cX11_unsay 27 = .ok (.ireturn, 1) := by decide +kernel
theorem dX11_unsay_28 : decode cX11_unsay 28 = .ok (.aload_n 0, 1) := by decide +kernel
theorem dX11_unsay_29 : decode cX11_unsay 29 = .ok (.iload_n 1, 1) := by decide +kernel
theorem dX11_unsay_30 : decode cX11_unsay 30 = .ok (.aload_n 0, 1) := by decide +kernel
theorem dX11_unsay_31 : decode cX11_unsay 31 = .ok (.getfield 35, 3) := by decide +kernel
theorem dX11_unsay_34 : decode cX11_unsay 34 = .ok (.getfield 116, 3) := by decide +kernel
theorem dX11_unsay_37 : decode cX11_unsay 37 = .ok (.invokevirtual 180, 3) := by decide +kernel
theorem dX11_unsay_40 : decode cX11_unsay 40 = .ok (.iload_n 2, 1) := by decide +kernel
theorem dX11_unsay_41 : decode cX11_unsay 41 = .ok (.aload_n 0, 1) := by decide +kernel
theorem dX11_unsay_42 : decode cX11_unsay 42 = .ok (.getfield 89, 3) := by decide +kernel
theorem dX11_unsay_45 : decode cX11_unsay 45 = .ok (.getfield 184, 3) := by decide +kernel
theorem dX11_unsay_48 : decode cX11_unsay 48 = .ok (.if_icmp .lt 6, 3) := by decide +kernel
theorem dX11_unsay_51 : decode cX11_unsay 51 = .ok (.bipush (-4), 2) := by decide +kernel
theorem dX11_unsay_53 : decode cX11_unsay 53 = .ok (.ireturn, 1) := by decide +kernel
theorem dX11_unsay_54 : decode cX11_unsay 54 = .ok (.aload_n 0, 1) := by decide +kernel
theorem dX11_unsay_55 : decode cX11_unsay 55 = .ok (.iload_n 1, 1) := by decide +kernel
theorem dX11_unsay_56 : decode cX11_unsay 56 = .ok (.iload_n 3, 1) := by decide +kernel
theorem dX11_unsay_57 : decode cX11_unsay 57 = .ok (.aload_n 0, 1) := by decide +kernel
theorem dX11_unsay_58 : decode cX11_unsay 58 = .ok (.getfield 89, 3) := by decide +kernel
theorem dX11_unsay_61 : decode cX11_unsay 61 = .ok (.getfield 185, 3) := by decide +kernel
theorem dX11_unsay_64 : decode cX11_unsay 64 = .ok (.iload_n 2, 1) := by decide +kernel
theorem dX11_unsay_65 : decode cX11_unsay 65 = .ok (.iaload, 1) := by decide +kernel
theorem dX11_unsay_66 : decode cX11_unsay 66 = .ok (.aload_n 0, 1) := by decide +kernel
theorem dX11_unsay_67 : decode cX11_unsay 67 = .ok (.getfield 89, 3) := by decide +kernel
theorem dX11_unsay_70 : decode cX11_unsay 70 = .ok (.getfield 194, 3) := by decide +kernel
theorem dX11_unsay_73 : decode cX11_unsay 73 = .ok (.iload_n 2, 1) := by decide +kernel
theorem dX11_unsay_74 : decode cX11_unsay 74 = .ok (.iaload, 1) := by decide +kernel
theorem dX11_unsay_75 : decode cX11_unsay 75 = .ok (.invokevirtual 197, 3) := by decide +kernel
theorem dX11_unsay_78 : decode cX11_unsay 78 = .ok (.ifCond .eq 7, 3) := by decide +kernel
theorem dX11_unsay_81 : decode cX11_unsay 81 = .ok (.iconst 1, 1) := by decide +kernel
theorem dX11_unsay_82 : decode cX11_unsay 82 = .ok (.goto 4, 3) := by decide +kernel
theorem dX11_unsay_85 : decode cX11_unsay 85 = .ok (.iconst 0, 1) := by decide +kernel
theorem dX11_unsay_86 : decode cX11_unsay 86 = .ok (.ireturn, 1) := by decide +kernel
set_option maxRecDepth 20000 in
theorem ggX11_open_X2_isPlace : GoodIn wsX11_open wsX2_isPlace := goodIn_r _ [12, 13, 115, 116, 117, 118, 119, 120, 121] (by decide +kernel) (by decide +kernel)
set_option maxRecDepth 20000 in
theorem gX11_open_X2_isPlace : GoodIn wsX11_open (wsV RX11 128 RX2 yX2_isPlace wsX2_isPlace) := goodIn_app (goodIn_of _ (by decide +kernel)) ggX11_open_X2_isPlace
set_option maxRecDepth 20000 in
theorem ggX11_open_X11_standAt : GoodIn wsX11_open wsX11_standAt := goodIn_r _ [18, 19, 2, 1, 4, 20, 21, 22, 23, 24, 25, 26, 27, 28, 29, 30, 31, 32, 11, 33, 34, 35, 9, 10, 12, 13, 36, 37, 38, 39, 40, 41, 42, 43, 44, 45, 46, 47, 48, 49, 50, 51, 52, 53, 54, 55, 56, 57, 58, 59, 60, 61, 62, 63, 64, 65, 66, 67, 68, 69, 70, 71, 72, 73, 74, 91, 92, 93, 94, 95, 96, 97, 98, 99, 100, 101, 102, 103, 122, 123, 124, 125, 104, 105, 106, 107, 108, 115, 116, 117, 118, 119, 120, 121, 109, 110, 111, 112, 113, 114] (by decide +kernel) (by decide +kernel)
set_option maxRecDepth 20000 in
theorem gX11_open_X11_standAt : GoodIn wsX11_open (wsV RX11 180 RX11 yX11_standAt wsX11_standAt) := goodIn_app (goodIn_of _ (by decide +kernel)) ggX11_open_X11_standAt
set_option maxRecDepth 20000 in
theorem ggX11_open_X11_goesBySome : GoodIn wsX11_open wsX11_goesBySome := goodIn_r _ [78, 1, 79, 80, 81, 82, 17, 83, 2, 3, 84, 19, 85, 31, 32, 11, 33, 34, 35, 9, 10, 12, 13, 43, 44, 45, 46, 47, 48, 49, 50, 51, 52, 53, 54, 55, 56, 57, 58, 59, 60, 61, 62, 63, 64, 65, 66, 67, 68, 69, 70, 71, 72, 73, 74, 86, 87, 88, 89, 90, 91, 92, 93, 94, 95, 96, 97, 98, 99, 100, 101, 102, 103, 115, 116, 117, 118, 119, 120, 121, 104, 105, 106, 107, 108, 109, 110, 111, 112, 113, 114, 122, 123, 124, 125] (by decide +kernel) (by decide +kernel)
set_option maxRecDepth 20000 in
theorem gX11_open_X11_goesBySome : GoodIn wsX11_open (wsV RX11 201 RX11 yX11_goesBySome wsX11_goesBySome) := goodIn_app (goodIn_of _ (by decide +kernel)) ggX11_open_X11_goesBySome
theorem dX11_open_0 : decode cX11_open 0 = .ok (.aload_n 0, 1) := by decide +kernel
theorem dX11_open_1 : decode cX11_open 1 = .ok (.getfield 28, 3) := by decide +kernel
theorem dX11_open_4 : decode cX11_open 4 = .ok (.iload_n 1, 1) := by decide +kernel
theorem dX11_open_5 : decode cX11_open 5 = .ok (.invokevirtual 128, 3) := by decide +kernel
theorem dX11_open_8 : decode cX11_open 8 = .ok (.ifCond .ne 5, 3) := by decide +kernel
theorem dX11_open_11 : decode cX11_open 11 = .ok (.iconst (-1), 1) := by decide +kernel
theorem dX11_open_12 : decode cX11_open 12 = .ok (.ireturn, 1) := by decide +kernel
theorem dX11_open_13 : decode cX11_open 13 = .ok (.aload_n 0, 1) := by decide +kernel
theorem dX11_open_14 : decode cX11_open 14 = .ok (.iload_n 1, 1) := by decide +kernel
theorem dX11_open_15 : decode cX11_open 15 = .ok (.aload_n 0, 1) := by decide +kernel
theorem dX11_open_16 : decode cX11_open 16 = .ok (.getfield 35, 3) := by decide +kernel
theorem dX11_open_19 : decode cX11_open 19 = .ok (.getfield 116, 3) := by decide +kernel
theorem dX11_open_22 : decode cX11_open 22 = .ok (.invokevirtual 180, 3) := by decide +kernel
theorem dX11_open_25 : decode cX11_open 25 = .ok (.iconst 0, 1) := by decide +kernel
theorem dX11_open_26 : decode cX11_open 26 = .ok (.istore_n 2, 1) := by decide +kernel
theorem dX11_open_27 : decode cX11_open 27 = .ok (.iconst 0, 1) := by decide +kernel
theorem dX11_open_28 : decode cX11_open 28 = .ok (.istore_n 3, 1) := by decide +kernel
theorem dX11_open_29 : decode cX11_open 29 = .ok (.iload_n 3, 1) := by decide +kernel
theorem dX11_open_30 : decode cX11_open 30 = .ok (.aload_n 0, 1) := by decide +kernel
theorem dX11_open_31 : decode cX11_open 31 = .ok (.getfield 89, 3) := by decide +kernel
theorem dX11_open_34 : decode cX11_open 34 = .ok (.getfield 184, 3) := by decide +kernel
theorem dX11_open_37 : decode cX11_open 37 = .ok (.if_icmp .ge 38, 3) := by decide +kernel
theorem dX11_open_40 : decode cX11_open 40 = .ok (.aload_n 0, 1) := by decide +kernel
theorem dX11_open_41 : decode cX11_open 41 = .ok (.iload_n 1, 1) := by decide +kernel
theorem dX11_open_42 : decode cX11_open 42 = .ok (.aload_n 0, 1) := by decide +kernel
theorem dX11_open_43 : decode cX11_open 43 = .ok (.getfield 89, 3) := by decide +kernel
theorem dX11_open_46 : decode cX11_open 46 = .ok (.getfield 185, 3) := by decide +kernel
theorem dX11_open_49 : decode cX11_open 49 = .ok (.iload_n 3, 1) := by decide +kernel
theorem dX11_open_50 : decode cX11_open 50 = .ok (.iaload, 1) := by decide +kernel
theorem dX11_open_51 : decode cX11_open 51 = .ok (.aload_n 0, 1) := by decide +kernel
theorem dX11_open_52 : decode cX11_open 52 = .ok (.getfield 89, 3) := by decide +kernel
theorem dX11_open_55 : decode cX11_open 55 = .ok (.getfield 194, 3) := by decide +kernel
theorem dX11_open_58 : decode cX11_open 58 = .ok (.iload_n 3, 1) := by decide +kernel
theorem dX11_open_59 : decode cX11_open 59 = .ok (.iaload, 1) := by decide +kernel
theorem dX11_open_60 : decode cX11_open 60 = .ok (.invokevirtual 201, 3) := by decide +kernel
theorem dX11_open_63 : decode cX11_open 63 = .ok (.ifCond .eq 6, 3) := by decide +kernel
theorem dX11_open_66 : decode cX11_open 66 = .ok (.iinc 2 1, 3) := by decide +kernel
theorem dX11_open_69 : decode cX11_open 69 = .ok (.iinc 3 1, 3) := by decide +kernel
theorem dX11_open_72 : decode cX11_open 72 = .ok (.goto (-43), 3) := by decide +kernel
theorem dX11_open_75 : decode cX11_open 75 = .ok (.iload_n 2, 1) := by decide +kernel
theorem dX11_open_76 : decode cX11_open 76 = .ok (.ireturn, 1) := by decide +kernel
set_option maxRecDepth 20000 in
theorem ggX11_add_X2_isSort : GoodIn wsX11_add wsX2_isSort := goodIn_r _ [8, 9, 32, 33, 34, 35, 36, 37, 38] (by decide +kernel) (by decide +kernel)
set_option maxRecDepth 20000 in
theorem gX11_add_X2_isSort : GoodIn wsX11_add (wsV RX11 153 RX2 yX2_isSort wsX2_isSort) := goodIn_app (goodIn_of _ (by decide +kernel)) ggX11_add_X2_isSort
set_option maxRecDepth 20000 in
theorem ggX11_add_X7_append : GoodIn wsX11_add wsX7_append := goodIn_r _ [14, 15, 16, 30, 31] (by decide +kernel) (by decide +kernel)
set_option maxRecDepth 20000 in
theorem gX11_add_X7_append : GoodIn wsX11_add (wsV RX11 205 RX7 yX7_append wsX7_append) := goodIn_app (goodIn_of _ (by decide +kernel)) ggX11_add_X7_append
theorem dX11_add_0 : decode cX11_add 0 = .ok (.aload_n 0, 1) := by decide +kernel
theorem dX11_add_1 : decode cX11_add 1 = .ok (.getfield 28, 3) := by decide +kernel
theorem dX11_add_4 : decode cX11_add 4 = .ok (.iload_n 1, 1) := by decide +kernel
theorem dX11_add_5 : decode cX11_add 5 = .ok (.invokevirtual 153, 3) := by decide +kernel
theorem dX11_add_8 : decode cX11_add 8 = .ok (.ifCond .ne 5, 3) := by decide +kernel
theorem dX11_add_11 : decode cX11_add 11 = .ok (.iconst (-1), 1) := by decide +kernel
theorem dX11_add_12 : decode cX11_add 12 = .ok (.ireturn, 1) := by decide +kernel
theorem dX11_add_13 : decode cX11_add 13 = .ok (.aload_n 0, 1) := by decide +kernel
theorem dX11_add_14 : decode cX11_add 14 = .ok (.getfield 55, 3) := by decide +kernel
theorem dX11_add_17 : decode cX11_add 17 = .ok (.iload_n 1, 1) := by decide +kernel
theorem dX11_add_18 : decode cX11_add 18 = .ok (.invokevirtual 205, 3) := by decide +kernel
theorem dX11_add_21 : decode cX11_add 21 = .ok (.ifCond .eq 13, 3) := by decide +kernel
theorem dX11_add_24 : decode cX11_add 24 = .ok (.aload_n 0, 1) := by decide +kernel
theorem dX11_add_25 : decode cX11_add 25 = .ok (.getfield 55, 3) := by decide +kernel
theorem dX11_add_28 : decode cX11_add 28 = .ok (.getfield 119, 3) := by decide +kernel
theorem dX11_add_31 : decode cX11_add 31 = .ok (.goto 5, 3) := by decide +kernel
theorem dX11_add_34 : decode cX11_add 34 = .ok (.bipush (-3), 2) := by decide +kernel
theorem dX11_add_36 : decode cX11_add 36 = .ok (.ireturn, 1) := by decide +kernel
theorem dX11_noRow_0 : decode cX11_noRow 0 = .ok (.aload_n 0, 1) := by decide +kernel
theorem dX11_noRow_1 : decode cX11_noRow 1 = .ok (.getfield 55, 3) := by decide +kernel
theorem dX11_noRow_4 : decode cX11_noRow 4 = .ok (.getfield 119, 3) := by decide +kernel
theorem dX11_noRow_7 : decode cX11_noRow 7 = .ok (.istore_n 1, 1) := by decide +kernel
theorem dX11_noRow_8 : decode cX11_noRow 8 = .ok (.aload_n 0, 1) := by decide +kernel
theorem dX11_noRow_9 : decode cX11_noRow 9 = .ok (.getfield 55, 3) := by decide +kernel
theorem dX11_noRow_12 : decode cX11_noRow 12 = .ok (.iconst 0, 1) := by decide +kernel
theorem dX11_noRow_13 : decode cX11_noRow 13 = .ok (.putfield 119, 3) := by decide +kernel
theorem dX11_noRow_16 : decode cX11_noRow 16 = .ok (.iload_n 1, 1) := by decide +kernel
theorem dX11_noRow_17 : decode cX11_noRow 17 = .ok (.ireturn, 1) := by decide +kernel
set_option maxRecDepth 20000 in
theorem ggX11_takes_X2_isPlace : GoodIn wsX11_takes wsX2_isPlace := goodIn_r _ [13, 14, 95, 96, 97, 98, 99, 100, 101] (by decide +kernel) (by decide +kernel)
set_option maxRecDepth 20000 in
theorem gX11_takes_X2_isPlace : GoodIn wsX11_takes (wsV RX11 128 RX2 yX2_isPlace wsX2_isPlace) := goodIn_app (goodIn_of _ (by decide +kernel)) ggX11_takes_X2_isPlace
set_option maxRecDepth 20000 in
theorem ggX11_takes_X3_fillFrom : GoodIn wsX11_takes wsX3_fillFrom := goodIn_r _ [19, 20, 21, 22, 23, 24, 25, 26, 27, 12, 28, 29, 30, 10, 11, 13, 14, 31, 32, 33, 18, 34, 35, 36, 37, 102, 103, 104, 105, 90, 91, 92, 93, 94, 95, 96, 97, 98, 99, 100, 101] (by decide +kernel) (by decide +kernel)
set_option maxRecDepth 20000 in
theorem gX11_takes_X3_fillFrom : GoodIn wsX11_takes (wsV RX11 207 RX3 yX3_fillFrom wsX3_fillFrom) := goodIn_app (goodIn_of _ (by decide +kernel)) ggX11_takes_X3_fillFrom
set_option maxRecDepth 20000 in
theorem ggX11_takes_X5_empty : GoodIn wsX11_takes wsX5_empty := goodIn_r _ [42, 43, 44, 106, 107, 108, 109, 110, 111] (by decide +kernel) (by decide +kernel)
set_option maxRecDepth 20000 in
theorem gX11_takes_X5_empty : GoodIn wsX11_takes (wsV RX11 211 RX5 yX5_empty wsX5_empty) := goodIn_app (goodIn_of _ (by decide +kernel)) ggX11_takes_X5_empty
set_option maxRecDepth 20000 in
theorem ggX11_takes_X5_hearTo : GoodIn wsX11_takes wsX5_hearTo := goodIn_r _ [48, 44, 49, 50, 51, 52, 53, 54, 41, 55, 43, 56, 57, 58, 59, 60, 61, 62, 63, 64, 65, 66, 67, 68, 69, 106, 107, 108, 109, 110, 111, 102, 103, 104, 105, 95, 96, 97, 98, 99, 100, 101] (by decide +kernel) (by decide +kernel)
set_option maxRecDepth 20000 in
theorem gX11_takes_X5_hearTo : GoodIn wsX11_takes (wsV RX11 214 RX5 yX5_hearTo wsX5_hearTo) := goodIn_app (goodIn_of _ (by decide +kernel)) ggX11_takes_X5_hearTo
set_option maxRecDepth 20000 in
theorem ggX11_takes_X5_wouldCome : GoodIn wsX11_takes wsX5_wouldCome := goodIn_r _ [73, 59, 60, 61, 41, 62, 63, 64, 43, 58, 65, 56, 106, 107, 108, 109, 110, 111, 95, 96, 97, 98, 99, 100, 101] (by decide +kernel) (by decide +kernel)
set_option maxRecDepth 20000 in
theorem gX11_takes_X5_wouldCome : GoodIn wsX11_takes (wsV RX11 218 RX5 yX5_wouldCome wsX5_wouldCome) := goodIn_app (goodIn_of _ (by decide +kernel)) ggX11_takes_X5_wouldCome
set_option maxRecDepth 20000 in
theorem ggX11_takes_X5_hear : GoodIn wsX11_takes wsX5_hear := goodIn_r _ [55, 43, 56, 57, 58, 59, 60, 61, 41, 62, 63, 64, 65, 66, 67, 68, 69, 106, 107, 108, 109, 110, 111, 95, 96, 97, 98, 99, 100, 101] (by decide +kernel) (by decide +kernel)
set_option maxRecDepth 20000 in
theorem gX11_takes_X5_hear : GoodIn wsX11_takes (wsV RX11 221 RX5 yX5_hear wsX5_hear) := goodIn_app (goodIn_of _ (by decide +kernel)) ggX11_takes_X5_hear
theorem dX11_takes_0 : decode cX11_takes 0 = .ok (.aload_n 0, 1) := by decide +kernel
theorem dX11_takes_1 : decode cX11_takes 1 = .ok (.getfield 28, 3) := by decide +kernel
theorem dX11_takes_4 : decode cX11_takes 4 = .ok (.iload_n 1, 1) := by decide +kernel
theorem dX11_takes_5 : decode cX11_takes 5 = .ok (.invokevirtual 128, 3) := by decide +kernel
theorem dX11_takes_8 : decode cX11_takes 8 = .ok (.ifCond .ne 5, 3) := by decide +kernel
theorem dX11_takes_11 : decode cX11_takes 11 = .ok (.iconst (-1), 1) := by decide +kernel
theorem dX11_takes_12 : decode cX11_takes 12 = .ok (.ireturn, 1) := by decide +kernel
theorem dX11_takes_13 : decode cX11_takes 13 = .ok (.aload_n 0, 1) := by decide +kernel
theorem dX11_takes_14 : decode cX11_takes 14 = .ok (.getfield 55, 3) := by decide +kernel
theorem dX11_takes_17 : decode cX11_takes 17 = .ok (.getfield 119, 3) := by decide +kernel
theorem dX11_takes_20 : decode cX11_takes 20 = .ok (.ifCond .ne 5, 3) := by decide +kernel
theorem dX11_takes_23 : decode cX11_takes 23 = .ok (.iconst 0, 1) := by decide +kernel
theorem dX11_takes_24 : decode cX11_takes 24 = .ok (.ireturn, 1) := by decide +kernel
theorem dX11_takes_25 : decode cX11_takes 25 = .ok (.aload_n 0, 1) := by decide +kernel
theorem dX11_takes_26 : decode cX11_takes 26 = .ok (.getfield 80, 3) := by decide +kernel
theorem dX11_takes_29 : decode cX11_takes 29 = .ok (.aload_n 0, 1) := by decide +kernel
theorem dX11_takes_30 : decode cX11_takes 30 = .ok (.getfield 35, 3) := by decide +kernel
theorem dX11_takes_33 : decode cX11_takes 33 = .ok (.aload_n 0, 1) := by decide +kernel
theorem dX11_takes_34 : decode cX11_takes 34 = .ok (.getfield 28, 3) := by decide +kernel
theorem dX11_takes_37 : decode cX11_takes 37 = .ok (.iload_n 1, 1) := by decide +kernel
theorem dX11_takes_38 : decode cX11_takes 38 = .ok (.invokevirtual 207, 3) := by decide +kernel
theorem dX11_takes_41 : decode cX11_takes 41 = .ok (.aload_n 0, 1) := by decide +kernel
theorem dX11_takes_42 : decode cX11_takes 42 = .ok (.getfield 89, 3) := by decide +kernel
theorem dX11_takes_45 : decode cX11_takes 45 = .ok (.invokevirtual 211, 3) := by decide +kernel
theorem dX11_takes_48 : decode cX11_takes 48 = .ok (.iconst 0, 1) := by decide +kernel
theorem dX11_takes_49 : decode cX11_takes 49 = .ok (.istore_n 2, 1) := by decide +kernel
theorem dX11_takes_50 : decode cX11_takes 50 = .ok (.iconst 0, 1) := by decide +kernel
theorem dX11_takes_51 : decode cX11_takes 51 = .ok (.istore_n 3, 1) := by decide +kernel
theorem dX11_takes_52 : decode cX11_takes 52 = .ok (.iload_n 3, 1) := by decide +kernel
theorem dX11_takes_53 : decode cX11_takes 53 = .ok (.sipush 600, 3) := by decide +kernel
theorem dX11_takes_56 : decode cX11_takes 56 = .ok (.if_icmp .gt 89, 3) := by decide +kernel
theorem dX11_takes_59 : decode cX11_takes 59 = .ok (.aload_n 0, 1) := by decide +kernel
theorem dX11_takes_60 : decode cX11_takes 60 = .ok (.getfield 35, 3) := by decide +kernel
theorem dX11_takes_63 : decode cX11_takes 63 = .ok (.getfield 116, 3) := by decide +kernel
theorem dX11_takes_66 : decode cX11_takes 66 = .ok (.iload_n 3, 1) := by decide +kernel
theorem dX11_takes_67 : decode cX11_takes 67 = .ok (.iadd, 1) := by decide +kernel
theorem dX11_takes_68 : decode cX11_takes 68 = .ok (.istore 4, 2) := by decide +kernel
theorem dX11_takes_70 : decode cX11_takes 70 = .ok (.aload_n 0, 1) := by decide +kernel
theorem dX11_takes_71 : decode cX11_takes 71 = .ok (.getfield 89, 3) := by decide +kernel
theorem dX11_takes_74 : decode cX11_takes 74 = .ok (.aload_n 0, 1) := by decide +kernel
theorem dX11_takes_75 : decode cX11_takes 75 = .ok (.getfield 80, 3) := by decide +kernel
theorem dX11_takes_78 : decode cX11_takes 78 = .ok (.iload 4, 2) := by decide +kernel
theorem dX11_takes_80 : decode cX11_takes 80 = .ok (.invokevirtual 214, 3) := by decide +kernel
theorem dX11_takes_83 : decode cX11_takes 83 = .ok (.aload_n 0, 1) := by decide +kernel
theorem dX11_takes_84 : decode cX11_takes 84 = .ok (.getfield 89, 3) := by decide +kernel
theorem dX11_takes_87 : decode cX11_takes 87 = .ok (.aload_n 0, 1) := by decide +kernel
theorem dX11_takes_88 : decode cX11_takes 88 = .ok (.getfield 55, 3) := by decide +kernel
theorem dX11_takes_91 : decode cX11_takes 91 = .ok (.getfield 149, 3) := by decide +kernel
theorem dX11_takes_94 : decode cX11_takes 94 = .ok (.iload_n 2, 1) := by decide +kernel
theorem dX11_takes_95 : decode cX11_takes 95 = .ok (.iaload, 1) := by decide +kernel
theorem dX11_takes_96 : decode cX11_takes 96 = .ok (.iload 4, 2) := by decide +kernel
theorem dX11_takes_98 : decode cX11_takes 98 = .ok (.invokevirtual 218, 3) := by decide +kernel
theorem dX11_takes_101 : decode cX11_takes 101 = .ok (.ifCond .eq 38, 3) := by decide +kernel
theorem dX11_takes_104 : decode cX11_takes 104 = .ok (.aload_n 0, 1) := by decide +kernel
theorem dX11_takes_105 : decode cX11_takes 105 = .ok (.getfield 89, 3) := by decide +kernel
theorem dX11_takes_108 : decode cX11_takes 108 = .ok (.aload_n 0, 1) := by decide +kernel
theorem dX11_takes_109 : decode cX11_takes 109 = .ok (.getfield 55, 3) := by decide +kernel
theorem dX11_takes_112 : decode cX11_takes 112 = .ok (.getfield 149, 3) := by decide +kernel
theorem dX11_takes_115 : decode cX11_takes 115 = .ok (.iload_n 2, 1) := by decide +kernel
theorem dX11_takes_116 : decode cX11_takes 116 = .ok (.iaload, 1) := by decide +kernel
theorem dX11_takes_117 : decode cX11_takes 117 = .ok (.iload 4, 2) := by decide +kernel
theorem dX11_takes_119 : decode cX11_takes 119 = .ok (.iconst (-1), 1) := by decide +kernel
theorem dX11_takes_120 : decode cX11_takes 120 = .ok (.invokevirtual 221, 3) := by decide +kernel
theorem dX11_takes_123 : decode cX11_takes 123 = .ok (.iinc 2 1, 3) := by decide +kernel
theorem dX11_takes_126 : decode cX11_takes 126 = .ok (.iload_n 2, 1) := by decide +kernel
theorem dX11_takes_127 : decode cX11_takes 127 = .ok (.aload_n 0, 1) := by decide +kernel
theorem dX11_takes_128 : decode cX11_takes 128 = .ok (.getfield 55, 3) := by decide +kernel
theorem dX11_takes_131 : decode cX11_takes 131 = .ok (.getfield 119, 3) := by decide +kernel
theorem dX11_takes_134 : decode cX11_takes 134 = .ok (.if_icmp .lt 5, 3) := by decide +kernel
theorem dX11_takes_137 : decode cX11_takes 137 = .ok (.iload_n 3, 1) := by decide +kernel
theorem dX11_takes_138 : decode cX11_takes 138 = .ok (.ireturn, 1) := by decide +kernel
theorem dX11_takes_139 : decode cX11_takes 139 = .ok (.iinc 3 1, 3) := by decide +kernel
theorem dX11_takes_142 : decode cX11_takes 142 = .ok (.goto (-90), 3) := by decide +kernel
theorem dX11_takes_145 : decode cX11_takes 145 = .ok (.bipush (-4), 2) := by decide +kernel
theorem dX11_takes_147 : decode cX11_takes 147 = .ok (.ireturn, 1) := by decide +kernel
set_option maxRecDepth 20000 in
theorem ggX11_mends_X2_isPlace : GoodIn wsX11_mends wsX2_isPlace := goodIn_r _ [7, 8, 120, 121, 122, 123, 124, 125, 126] (by decide +kernel) (by decide +kernel)
set_option maxRecDepth 20000 in
theorem gX11_mends_X2_isPlace : GoodIn wsX11_mends (wsV RX11 128 RX2 yX2_isPlace wsX2_isPlace) := goodIn_app (goodIn_of _ (by decide +kernel)) ggX11_mends_X2_isPlace
set_option maxRecDepth 20000 in
theorem ggX11_mends_X10_countWays : GoodIn wsX11_mends wsX10_countWays := goodIn_r _ [13, 14, 15, 16, 17, 18, 19, 20, 21, 22, 23, 24, 25, 26, 27, 28, 29, 30, 31, 6, 32, 33, 34, 4, 5, 7, 8, 35, 36, 37, 38, 39, 40, 41, 42, 43, 44, 45, 46, 47, 48, 49, 50, 51, 52, 53, 54, 55, 56, 57, 58, 59, 60, 61, 62, 63, 64, 65, 66, 67, 68, 69, 70, 71, 72, 73, 74, 75, 76, 12, 77, 78, 79, 80, 81, 82, 83, 84, 85, 86, 87, 88, 89, 90, 91, 92, 93, 94, 95, 96, 97, 98, 99, 100, 101, 102, 103, 104, 105, 106, 127, 128, 129, 130, 131, 132, 133, 134, 135, 136, 137, 138, 139, 140, 120, 121, 122, 123, 124, 125, 126, 141, 142, 143, 144, 145, 146, 147, 148] (by decide +kernel) (by decide +kernel)
set_option maxRecDepth 20000 in
theorem gX11_mends_X10_countWays : GoodIn wsX11_mends (wsV RX11 225 RX10 yX10_countWays wsX10_countWays) := goodIn_app (goodIn_of _ (by decide +kernel)) ggX11_mends_X10_countWays
theorem dX11_mends_0 : decode cX11_mends 0 = .ok (.aload_n 0, 1) := by decide +kernel
theorem dX11_mends_1 : decode cX11_mends 1 = .ok (.getfield 28, 3) := by decide +kernel
theorem dX11_mends_4 : decode cX11_mends 4 = .ok (.iload_n 1, 1) := by decide +kernel
theorem dX11_mends_5 : decode cX11_mends 5 = .ok (.invokevirtual 128, 3) := by decide +kernel
theorem dX11_mends_8 : decode cX11_mends 8 = .ok (.ifCond .ne 5, 3) := by decide +kernel
theorem dX11_mends_11 : decode cX11_mends 11 = .ok (.iconst (-1), 1) := by decide +kernel
theorem dX11_mends_12 : decode cX11_mends 12 = .ok (.ireturn, 1) := by decide +kernel
theorem dX11_mends_13 : decode cX11_mends 13 = .ok (.iconst 0, 1) := by decide +kernel
theorem dX11_mends_14 : decode cX11_mends 14 = .ok (.istore_n 2, 1) := by decide +kernel
theorem dX11_mends_15 : decode cX11_mends 15 = .ok (.iload_n 2, 1) := by decide +kernel
theorem dX11_mends_16 : decode cX11_mends 16 = .ok (.iconst 4, 1) := by decide +kernel
theorem dX11_mends_17 : decode cX11_mends 17 = .ok (.if_icmp .gt 24, 3) := by decide +kernel
theorem dX11_mends_20 : decode cX11_mends 20 = .ok (.aload_n 0, 1) := by decide +kernel
theorem dX11_mends_21 : decode cX11_mends 21 = .ok (.getfield 73, 3) := by decide +kernel
theorem dX11_mends_24 : decode cX11_mends 24 = .ok (.iload_n 1, 1) := by decide +kernel
theorem dX11_mends_25 : decode cX11_mends 25 = .ok (.iload_n 2, 1) := by decide +kernel
theorem dX11_mends_26 : decode cX11_mends 26 = .ok (.iconst (-1), 1) := by decide +kernel
theorem dX11_mends_27 : decode cX11_mends 27 = .ok (.invokevirtual 225, 3) := by decide +kernel
theorem dX11_mends_30 : decode cX11_mends 30 = .ok (.ifCond .le 5, 3) := by decide +kernel
theorem dX11_mends_33 : decode cX11_mends 33 = .ok (.iload_n 2, 1) := by decide +kernel
theorem dX11_mends_34 : decode cX11_mends 34 = .ok (.ireturn, 1) := by decide +kernel
theorem dX11_mends_35 : decode cX11_mends 35 = .ok (.iinc 2 1, 3) := by decide +kernel
theorem dX11_mends_38 : decode cX11_mends 38 = .ok (.goto (-23), 3) := by decide +kernel
