theorem dX3_isAhead_27 : decode cX3_isAhead 27 = .ok (.if_icmp .gt 7, 3) := by decide +kernel
theorem dX3_isAhead_30 : decode cX3_isAhead 30 = .ok (.iconst 1, 1) := by decide +kernel
theorem dX3_isAhead_31 : decode cX3_isAhead 31 = .ok (.goto 4, 3) := by decide +kernel
theorem dX3_isAhead_34 : decode cX3_isAhead 34 = .ok (.iconst 0, 1) := by decide +kernel
theorem dX3_isAhead_35 : decode cX3_isAhead 35 = .ok (.ireturn, 1) := by decide +kernel
set_option maxRecDepth 20000 in
theorem ggX4_init_X2_init : GoodIn wsX4_init wsX2_init := goodIn_r _ [17, 18, 2, 3, 19, 20, 21, 22, 8, 23, 24, 25, 26, 27, 28, 29, 11, 12, 30, 31, 32, 33, 34, 35, 36, 37, 6, 38, 39, 40, 41, 42, 43, 44, 60, 61, 46, 47, 48, 49, 50, 51, 52, 58, 59] (by decide +kernel) (by decide +kernel)
set_option maxRecDepth 20000 in
theorem gX4_init_X2_init : GoodIn wsX4_init (wsX2_init) := ggX4_init_X2_init
set_option maxRecDepth 20000 in
theorem ggX4_init_X7_init : GoodIn wsX4_init wsX7_init := goodIn_r _ [32, 33, 2, 3, 8, 34, 58, 59] (by decide +kernel) (by decide +kernel)
set_option maxRecDepth 20000 in
theorem gX4_init_X7_init : GoodIn wsX4_init (wsX7_init) := ggX4_init_X7_init
theorem dX4_init_0 : decode cX4_init 0 = .ok (.aload_n 0, 1) := by decide +kernel
theorem dX4_init_1 : decode cX4_init 1 = .ok (.invokespecial 3, 3) := by decide +kernel
theorem dX4_init_4 : decode cX4_init 4 = .ok (.aload_n 0, 1) := by decide +kernel
theorem dX4_init_5 : decode cX4_init 5 = .ok (.new 9, 3) := by decide +kernel
theorem dX4_init_8 : decode cX4_init 8 = .ok (.dup, 1) := by decide +kernel
theorem dX4_init_9 : decode cX4_init 9 = .ok (.invokespecial 11, 3) := by decide +kernel
theorem dX4_init_12 : decode cX4_init 12 = .ok (.putfield 12, 3) := by decide +kernel
theorem dX4_init_15 : decode cX4_init 15 = .ok (.aload_n 0, 1) := by decide +kernel
theorem dX4_init_16 : decode cX4_init 16 = .ok (.iconst 3, 1) := by decide +kernel
theorem dX4_init_17 : decode cX4_init 17 = .ok (.newarray .int, 2) := by decide +kernel
theorem dX4_init_19 : decode cX4_init 19 = .ok (.putfield 18, 3) := by decide +kernel
theorem dX4_init_22 : decode cX4_init 22 = .ok (.aload_n 0, 1) := by decide +kernel
theorem dX4_init_23 : decode cX4_init 23 = .ok (.new 22, 3) := by decide +kernel
theorem dX4_init_26 : decode cX4_init 26 = .ok (.dup, 1) := by decide +kernel
theorem dX4_init_27 : decode cX4_init 27 = .ok (.iconst 4, 1) := by decide +kernel
theorem dX4_init_28 : decode cX4_init 28 = .ok (.invokespecial 24, 3) := by decide +kernel
theorem dX4_init_31 : decode cX4_init 31 = .ok (.putfield 27, 3) := by decide +kernel
theorem dX4_init_34 : decode cX4_init 34 = .ok (.aload_n 0, 1) := by decide +kernel
theorem dX4_init_35 : decode cX4_init 35 = .ok (.aload_n 1, 1) := by decide +kernel
theorem dX4_init_36 : decode cX4_init 36 = .ok (.putfield 31, 3) := by decide +kernel
theorem dX4_init_39 : decode cX4_init 39 = .ok (.return_, 1) := by decide +kernel
set_option maxRecDepth 20000 in
theorem ggX4_firstFault_X2_clear : GoodIn wsX4_firstFault wsX2_clear := goodIn_r _ [9, 10, 11, 12, 13, 14, 15, 16, 17, 101, 102, 103, 104, 105, 106, 107, 108, 109] (by decide +kernel) (by decide +kernel)
set_option maxRecDepth 20000 in
theorem gX4_firstFault_X2_clear : GoodIn wsX4_firstFault (wsV RX4 35 RX2 yX2_clear wsX2_clear) := goodIn_app (goodIn_of _ (by decide +kernel)) ggX4_firstFault_X2_clear
set_option maxRecDepth 20000 in
theorem ggX4_firstFault_X4_readsItem : GoodIn wsX4_firstFault wsX4_readsItem := goodIn_r _ [22, 2, 3, 4, 23, 1, 24, 25, 26, 27, 28, 29, 21, 30, 31, 32, 33, 34, 35, 36, 37, 38, 39, 40, 41, 8, 42, 16, 12, 43, 44, 45, 46, 17, 47, 48, 49, 50, 51, 52, 53, 54, 14, 55, 56, 57, 58, 15, 59, 60, 61, 62, 13, 63, 64, 65, 66, 67, 68, 69, 70, 71, 72, 73, 74, 75, 76, 77, 78, 79, 80, 81, 82, 83, 84, 85, 86, 87, 88, 89, 90, 91, 92, 93, 94, 95, 96, 97, 98, 99, 100, 101, 102, 103, 104, 105, 106, 107, 110, 111, 108, 109] (by decide +kernel) (by decide +kernel)
set_option maxRecDepth 20000 in
theorem gX4_firstFault_X4_readsItem : GoodIn wsX4_firstFault (wsV RX4 47 RX4 yX4_readsItem wsX4_readsItem) := goodIn_app (goodIn_of _ (by decide +kernel)) ggX4_firstFault_X4_readsItem
theorem dX4_firstFault_0 : decode cX4_firstFault 0 = .ok (.aload_n 0, 1) := by decide +kernel
theorem dX4_firstFault_1 : decode cX4_firstFault 1 = .ok (.getfield 12, 3) := by decide +kernel
theorem dX4_firstFault_4 : decode cX4_firstFault 4 = .ok (.invokevirtual 35, 3) := by decide +kernel
theorem dX4_firstFault_7 : decode cX4_firstFault 7 = .ok (.aload_n 0, 1) := by decide +kernel
theorem dX4_firstFault_8 : decode cX4_firstFault 8 = .ok (.iconst 0, 1) := by decide +kernel
theorem dX4_firstFault_9 : decode cX4_firstFault 9 = .ok (.putfield 38, 3) := by decide +kernel
theorem dX4_firstFault_12 : decode cX4_firstFault 12 = .ok (.iconst 0, 1) := by decide +kernel
theorem dX4_firstFault_13 : decode cX4_firstFault 13 = .ok (.istore_n 1, 1) := by decide +kernel
theorem dX4_firstFault_14 : decode cX4_firstFault 14 = .ok (.iload_n 1, 1) := by decide +kernel
theorem dX4_firstFault_15 : decode cX4_firstFault 15 = .ok (.sipush 300, 3) := by decide +kernel
theorem dX4_firstFault_18 : decode cX4_firstFault 18 = .ok (.if_icmp .ge 37, 3) := by decide +kernel
theorem dX4_firstFault_21 : decode cX4_firstFault 21 = .ok (.aload_n 0, 1) := by decide +kernel
theorem dX4_firstFault_22 : decode cX4_firstFault 22 = .ok (.getfield 38, 3) := by decide +kernel
theorem dX4_firstFault_25 : decode cX4_firstFault 25 = .ok (.aload_n 0, 1) := by decide +kernel
theorem dX4_firstFault_26 : decode cX4_firstFault 26 = .ok (.getfield 31, 3) := by decide +kernel
theorem dX4_firstFault_29 : decode cX4_firstFault 29 = .ok (.getfield 42, 3) := by decide +kernel
theorem dX4_firstFault_32 : decode cX4_firstFault 32 = .ok (.if_icmp .ge 23, 3) := by decide +kernel
theorem dX4_firstFault_35 : decode cX4_firstFault 35 = .ok (.aload_n 0, 1) := by decide +kernel
theorem dX4_firstFault_36 : decode cX4_firstFault 36 = .ok (.getfield 38, 3) := by decide +kernel
theorem dX4_firstFault_39 : decode cX4_firstFault 39 = .ok (.istore_n 2, 1) := by decide +kernel
theorem dX4_firstFault_40 : decode cX4_firstFault 40 = .ok (.aload_n 0, 1) := by decide +kernel
theorem dX4_firstFault_41 : decode cX4_firstFault 41 = .ok (.invokevirtual 47, 3) := by decide +kernel
theorem dX4_firstFault_44 : decode cX4_firstFault 44 = .ok (.ifCond .ne 5, 3) := by decide +kernel
theorem dX4_firstFault_47 : decode cX4_firstFault 47 = .ok (.iload_n 2, 1) := by decide +kernel
theorem dX4_firstFault_48 : decode cX4_firstFault 48 = .ok (.ireturn, 1) := by decide +kernel
theorem dX4_firstFault_49 : decode cX4_firstFault 49 = .ok (.iinc 1 1, 3) := by decide +kernel
theorem dX4_firstFault_52 : decode cX4_firstFault 52 = .ok (.goto (-38), 3) := by decide +kernel
theorem dX4_firstFault_55 : decode cX4_firstFault 55 = .ok (.bipush (-4), 2) := by decide +kernel
theorem dX4_firstFault_57 : decode cX4_firstFault 57 = .ok (.ireturn, 1) := by decide +kernel
set_option maxRecDepth 20000 in
theorem ggX4_readsItem_X4_readsNumbers : GoodIn wsX4_readsItem wsX4_readsNumbers := goodIn_r _ [13, 6, 14, 15, 16, 12, 17, 1, 2, 3, 4, 18, 19, 20, 21, 84, 85, 86, 87, 88, 89, 90] (by decide +kernel) (by decide +kernel)
set_option maxRecDepth 20000 in
theorem gX4_readsItem_X4_readsNumbers : GoodIn wsX4_readsItem (wsV RX4 55 RX4 yX4_readsNumbers wsX4_readsNumbers) := goodIn_app (goodIn_of _ (by decide +kernel)) ggX4_readsItem_X4_readsNumbers
set_option maxRecDepth 20000 in
theorem ggX4_readsItem_X2_setPlaces : GoodIn wsX4_readsItem wsX2_setPlaces := goodIn_r _ [26, 27, 28, 91, 92, 93, 94, 95, 96, 97] (by decide +kernel) (by decide +kernel)
set_option maxRecDepth 20000 in
theorem gX4_readsItem_X2_setPlaces : GoodIn wsX4_readsItem (wsV RX4 59 RX2 yX2_setPlaces wsX2_setPlaces) := goodIn_app (goodIn_of _ (by decide +kernel)) ggX4_readsItem_X2_setPlaces
set_option maxRecDepth 20000 in
theorem ggX4_readsItem_X2_setMinutes : GoodIn wsX4_readsItem wsX2_setMinutes := goodIn_r _ [32, 33, 27, 34, 35, 36, 25, 37, 28, 91, 92, 93, 94, 95, 96, 97] (by decide +kernel) (by decide +kernel)
set_option maxRecDepth 20000 in
theorem gX4_readsItem_X2_setMinutes : GoodIn wsX4_readsItem (wsV RX4 62 RX2 yX2_setMinutes wsX2_setMinutes) := goodIn_app (goodIn_of _ (by decide +kernel)) ggX4_readsItem_X2_setMinutes
set_option maxRecDepth 20000 in
theorem ggX4_readsItem_X2_setHour : GoodIn wsX4_readsItem wsX2_setHour := goodIn_r _ [41, 42, 91, 92, 93, 94, 95, 96, 97] (by decide +kernel) (by decide +kernel)
set_option maxRecDepth 20000 in
theorem gX4_readsItem_X2_setHour : GoodIn wsX4_readsItem (wsV RX4 66 RX2 yX2_setHour wsX2_setHour) := goodIn_app (goodIn_of _ (by decide +kernel)) ggX4_readsItem_X2_setHour
set_option maxRecDepth 20000 in
theorem ggX4_readsItem_X2_setLaw : GoodIn wsX4_readsItem wsX2_setLaw := goodIn_r _ [46, 47, 91, 92, 93, 94, 95, 96, 97] (by decide +kernel) (by decide +kernel)
set_option maxRecDepth 20000 in
theorem gX4_readsItem_X2_setLaw : GoodIn wsX4_readsItem (wsV RX4 69 RX2 yX2_setLaw wsX2_setLaw) := goodIn_app (goodIn_of _ (by decide +kernel)) ggX4_readsItem_X2_setLaw
set_option maxRecDepth 20000 in
theorem ggX4_readsItem_X2_setSorts : GoodIn wsX4_readsItem wsX2_setSorts := goodIn_r _ [51, 52, 91, 92, 93, 94, 95, 96, 97] (by decide +kernel) (by decide +kernel)
set_option maxRecDepth 20000 in
theorem gX4_readsItem_X2_setSorts : GoodIn wsX4_readsItem (wsV RX4 72 RX2 yX2_setSorts wsX2_setSorts) := goodIn_app (goodIn_of _ (by decide +kernel)) ggX4_readsItem_X2_setSorts
set_option maxRecDepth 20000 in
theorem ggX4_readsItem_X4_readsWord : GoodIn wsX4_readsItem wsX4_readsWord := goodIn_r _ [56, 8, 57, 14, 15, 16, 12, 17, 1, 2, 3, 4, 58, 59, 60, 61, 62, 63, 64, 18, 19, 20, 21, 84, 85, 86, 87, 88, 98, 99, 89, 90] (by decide +kernel) (by decide +kernel)
set_option maxRecDepth 20000 in
theorem gX4_readsItem_X4_readsWord : GoodIn wsX4_readsItem (wsV RX4 75 RX4 yX4_readsWord wsX4_readsWord) := goodIn_app (goodIn_of _ (by decide +kernel)) ggX4_readsItem_X4_readsWord
set_option maxRecDepth 20000 in
theorem ggX4_readsItem_X1_append : GoodIn wsX4_readsItem wsX1_append := goodIn_r _ [69, 70, 71, 72, 73, 74, 61, 75, 63, 64, 76, 77, 78, 79, 80, 81, 82, 83, 100, 101, 98, 99] (by decide +kernel) (by decide +kernel)
set_option maxRecDepth 20000 in
theorem gX4_readsItem_X1_append : GoodIn wsX4_readsItem (wsV RX4 82 RX1 yX1_append wsX1_append) := goodIn_app (goodIn_of _ (by decide +kernel)) ggX4_readsItem_X1_append
theorem dX4_readsItem_0 : decode cX4_readsItem 0 = .ok (.aload_n 0, 1) := by decide +kernel
theorem dX4_readsItem_1 : decode cX4_readsItem 1 = .ok (.getfield 38, 3) := by decide +kernel
theorem dX4_readsItem_4 : decode cX4_readsItem 4 = .ok (.aload_n 0, 1) := by decide +kernel
theorem dX4_readsItem_5 : decode cX4_readsItem 5 = .ok (.getfield 31, 3) := by decide +kernel
theorem dX4_readsItem_8 : decode cX4_readsItem 8 = .ok (.getfield 42, 3) := by decide +kernel
theorem dX4_readsItem_11 : decode cX4_readsItem 11 = .ok (.if_icmp .lt 5, 3) := by decide +kernel
theorem dX4_readsItem_14 : decode cX4_readsItem 14 = .ok (.iconst 0, 1) := by decide +kernel
theorem dX4_readsItem_15 : decode cX4_readsItem 15 = .ok (.ireturn, 1) := by decide +kernel
theorem dX4_readsItem_16 : decode cX4_readsItem 16 = .ok (.aload_n 0, 1) := by decide +kernel
theorem dX4_readsItem_17 : decode cX4_readsItem 17 = .ok (.getfield 31, 3) := by decide +kernel
theorem dX4_readsItem_20 : decode cX4_readsItem 20 = .ok (.getfield 51, 3) := by decide +kernel
theorem dX4_readsItem_23 : decode cX4_readsItem 23 = .ok (.aload_n 0, 1) := by decide +kernel
theorem dX4_readsItem_24 : decode cX4_readsItem 24 = .ok (.getfield 38, 3) := by decide +kernel
theorem dX4_readsItem_27 : decode cX4_readsItem 27 = .ok (.baload, 1) := by decide +kernel
theorem dX4_readsItem_28 : decode cX4_readsItem 28 = .ok (.istore_n 1, 1) := by decide +kernel
theorem dX4_readsItem_29 : decode cX4_readsItem 29 = .ok (.aload_n 0, 1) := by decide +kernel
theorem dX4_readsItem_30 : decode cX4_readsItem 30 = .ok (.dup, 1) := by decide +kernel
theorem dX4_readsItem_31 : decode cX4_readsItem 31 = .ok (.getfield 38, 3) := by decide +kernel
theorem dX4_readsItem_34 : decode cX4_readsItem 34 = .ok (.iconst 1, 1) := by decide +kernel
theorem dX4_readsItem_35 : decode cX4_readsItem 35 = .ok (.iadd, 1) := by decide +kernel
theorem dX4_readsItem_36 : decode cX4_readsItem 36 = .ok (.putfield 38, 3) := by decide +kernel
theorem dX4_readsItem_39 : decode cX4_readsItem 39 = .ok (.iload_n 1, 1) := by decide +kernel
theorem dX4_readsItem_40 : decode cX4_readsItem 40 = .ok (.tableswitch 284 102 120 #[224, 284, 164, 284, 284, 284, 194, 284, 284, 284, 92, 284, 284, 284, 284, 284, 284, 254, 122], 92) := by decide +kernel
theorem dX4_readsItem_132 : decode cX4_readsItem 132 = .ok (.aload_n 0, 1) := by decide +kernel
theorem dX4_readsItem_133 : decode cX4_readsItem 133 = .ok (.iconst 1, 1) := by decide +kernel
theorem dX4_readsItem_134 : decode cX4_readsItem 134 = .ok (.invokevirtual 55, 3) := by decide +kernel
theorem dX4_readsItem_137 : decode cX4_readsItem 137 = .ok (.ifCond .eq 23, 3) := by decide +kernel
theorem dX4_readsItem_140 : decode cX4_readsItem 140 = .ok (.aload_n 0, 1) := by decide +kernel
theorem dX4_readsItem_141 : decode cX4_readsItem 141 = .ok (.getfield 12, 3) := by decide +kernel
theorem dX4_readsItem_144 : decode cX4_readsItem 144 = .ok (.aload_n 0, 1) := by decide +kernel
theorem dX4_readsItem_145 : decode cX4_readsItem 145 = .ok (.getfield 18, 3) := by decide +kernel
theorem dX4_readsItem_148 : decode cX4_readsItem 148 = .ok (.iconst 0, 1) := by decide +kernel
theorem dX4_readsItem_149 : decode cX4_readsItem 149 = .ok (.iaload, 1) := by decide +kernel
theorem dX4_readsItem_150 : decode cX4_readsItem 150 = .ok (.invokevirtual 59, 3) := by decide +kernel
theorem dX4_readsItem_153 : decode cX4_readsItem 153 = .ok (.ifCond .eq 7, 3) := by decide +kernel
theorem dX4_readsItem_156 : decode cX4_readsItem 156 = .ok (.iconst 1, 1) := by decide +kernel
theorem dX4_readsItem_157 : decode cX4_readsItem 157 = .ok (.goto 4, 3) := by decide +kernel
theorem dX4_readsItem_160 : decode cX4_readsItem 160 = .ok (.iconst 0, 1) := by decide +kernel
theorem dX4_readsItem_161 : decode cX4_readsItem 161 = .ok (.ireturn, 1) := by decide +kernel
theorem dX4_readsItem_162 : decode cX4_readsItem 162 = .ok (.aload_n 0, 1) := by decide +kernel
theorem dX4_readsItem_163 : decode cX4_readsItem 163 = .ok (.iconst 3, 1) := by decide +kernel
theorem dX4_readsItem_164 : decode cX4_readsItem 164 = .ok (.invokevirtual 55, 3) := by decide +kernel
theorem dX4_readsItem_167 : decode cX4_readsItem 167 = .ok (.ifCond .eq 35, 3) := by decide +kernel
theorem dX4_readsItem_170 : decode cX4_readsItem 170 = .ok (.aload_n 0, 1) := by decide +kernel
theorem dX4_readsItem_171 : decode cX4_readsItem 171 = .ok (.getfield 12, 3) := by decide +kernel
theorem dX4_readsItem_174 : decode cX4_readsItem 174 = .ok (.aload_n 0, 1) := by decide +kernel
theorem dX4_readsItem_175 : decode cX4_readsItem 175 = .ok (.getfield 18, 3) := by decide +kernel
theorem dX4_readsItem_178 : decode cX4_readsItem 178 = .ok (.iconst 0, 1) := by decide +kernel
theorem dX4_readsItem_179 : decode cX4_readsItem 179 = .ok (.iaload, 1) := by decide +kernel
theorem dX4_readsItem_180 : decode cX4_readsItem 180 = .ok (.aload_n 0, 1) := by decide +kernel
theorem dX4_readsItem_181 : decode cX4_readsItem 181 = .ok (.getfield 18, 3) := by decide +kernel
theorem dX4_readsItem_184 : decode cX4_readsItem 184 = .ok (.iconst 1, 1) := by decide +kernel
theorem dX4_readsItem_185 : decode cX4_readsItem 185 = .ok (.iaload, 1) := by decide +kernel
theorem dX4_readsItem_186 : decode cX4_readsItem 186 = .ok (.aload_n 0, 1) := by decide +kernel
theorem dX4_readsItem_187 : decode cX4_readsItem 187 = .ok (.getfield 18, 3) := by decide +kernel
theorem dX4_readsItem_190 : decode cX4_readsItem 190 = .ok (.iconst 2, 1) := by decide +kernel
theorem dX4_readsItem_191 : decode cX4_readsItem 191 = .ok (.iaload, 1) := by decide +kernel
theorem dX4_readsItem_192 : decode cX4_readsItem 192 = .ok (.invokevirtual 62, 3) := by decide +kernel
theorem dX4_readsItem_195 : decode cX4_readsItem 195 = .ok (.ifCond .eq 7, 3) := by decide +kernel
theorem dX4_readsItem_198 : decode cX4_readsItem 198 = .ok (.iconst 1, 1) := by decide +kernel
theorem dX4_readsItem_199 : decode cX4_readsItem 199 = .ok (.goto 4, 3) := by decide +kernel
theorem dX4_readsItem_202 : decode cX4_readsItem 202 = .ok (.iconst 0, 1) := by decide +kernel
theorem dX4_readsItem_203 : decode cX4_readsItem 203 = .ok (.ireturn, 1) := by decide +kernel
theorem dX4_readsItem_204 : decode cX4_readsItem 204 = .ok (.aload_n 0, 1) := by decide +kernel
theorem dX4_readsItem_205 : decode cX4_readsItem 205 = .ok (.iconst 1, 1) := by decide +kernel
theorem dX4_readsItem_206 : decode cX4_readsItem 206 = .ok (.invokevirtual 55, 3) := by decide +kernel
theorem dX4_readsItem_209 : decode cX4_readsItem 209 = .ok (.ifCond .eq 23, 3) := by decide +kernel
theorem dX4_readsItem_212 : decode cX4_readsItem 212 = .ok (.aload_n 0, 1) := by decide +kernel
theorem dX4_readsItem_213 : decode cX4_readsItem 213 = .ok (.getfield 12, 3) := by decide +kernel
theorem dX4_readsItem_216 : decode cX4_readsItem 216 = .ok (.aload_n 0, 1) := by decide +kernel
theorem dX4_readsItem_217 : decode cX4_readsItem 217 = .ok (.getfield 18, 3) := by decide +kernel
theorem dX4_readsItem_220 : decode cX4_readsItem 220 = .ok (.iconst 0, 1) := by decide +kernel
theorem dX4_readsItem_221 : decode cX4_readsItem 221 = .ok (.iaload, 1) := by decide +kernel
theorem dX4_readsItem_222 : decode cX4_readsItem 222 = .ok (.invokevirtual 66, 3) := by decide +kernel
theorem dX4_readsItem_225 : decode cX4_readsItem 225 = .ok (.ifCond .eq 7, 3) := by decide +kernel
theorem dX4_readsItem_228 : decode cX4_readsItem 228 = .ok (.iconst 1, 1) := by decide +kernel
theorem dX4_readsItem_229 : decode cX4_readsItem 229 = .ok (.goto 4, 3) := by decide +kernel
theorem dX4_readsItem_232 : decode cX4_readsItem 232 = .ok (.iconst 0, 1) := by decide +kernel
theorem dX4_readsItem_233 : decode cX4_readsItem 233 = .ok (.ireturn, 1) := by decide +kernel
theorem dX4_readsItem_234 : decode cX4_readsItem 234 = .ok (.aload_n 0, 1) := by decide +kernel
theorem dX4_readsItem_235 : decode cX4_readsItem 235 = .ok (.iconst 1, 1) := by decide +kernel
theorem dX4_readsItem_236 : decode cX4_readsItem 236 = .ok (.invokevirtual 55, 3) := by decide +kernel
theorem dX4_readsItem_239 : decode cX4_readsItem 239 = .ok (.ifCond .eq 23, 3) := by decide +kernel
theorem dX4_readsItem_242 : decode cX4_readsItem 242 = .ok (.aload_n 0, 1) := by decide +kernel
theorem dX4_readsItem_243 : decode cX4_readsItem 243 = .ok (.getfield 12, 3) := by decide +kernel
theorem dX4_readsItem_246 : decode cX4_readsItem 246 = .ok (.aload_n 0, 1) := by decide +kernel
theorem dX4_readsItem_247 : decode cX4_readsItem 247 = .ok (.getfield 18, 3) := by decide +kernel
theorem dX4_readsItem_250 : decode cX4_readsItem 250 = .ok (.iconst 0, 1) := by decide +kernel
theorem dX4_readsItem_251 : decode cX4_readsItem 251 = .ok (.iaload, 1) := by decide +kernel
theorem dX4_readsItem_252 : decode cX4_readsItem 252 = .ok (.invokevirtual 69, 3) := by decide +kernel
theorem dX4_readsItem_255 : decode cX4_readsItem 255 = .ok (.ifCond .eq 7, 3) := by decide +kernel
theorem dX4_readsItem_258 : decode cX4_readsItem 258 = .ok (.iconst 1, 1) := by decide +kernel
theorem dX4_readsItem_259 : decode cX4_readsItem 259 = .ok (.goto 4, 3) := by decide +kernel
theorem dX4_readsItem_262 : decode cX4_readsItem 262 = .ok (.iconst 0, 1) := by decide +kernel
theorem dX4_readsItem_263 : decode cX4_readsItem 263 = .ok (.ireturn, 1) := by decide +kernel
theorem dX4_readsItem_264 : decode cX4_readsItem 264 = .ok (.aload_n 0, 1) := by decide +kernel
theorem dX4_readsItem_265 : decode cX4_readsItem 265 = .ok (.iconst 1, 1) := by decide +kernel
theorem dX4_readsItem_266 : decode cX4_readsItem 266 = .ok (.invokevirtual 55, 3) := by decide +kernel
theorem dX4_readsItem_269 : decode cX4_readsItem 269 = .ok (.ifCond .eq 23, 3) := by decide +kernel
theorem dX4_readsItem_272 : decode cX4_readsItem 272 = .ok (.aload_n 0, 1) := by decide +kernel
theorem dX4_readsItem_273 : decode cX4_readsItem 273 = .ok (.getfield 12, 3) := by decide +kernel
theorem dX4_readsItem_276 : decode cX4_readsItem 276 = .ok (.aload_n 0, 1) := by decide +kernel
theorem dX4_readsItem_277 : decode cX4_readsItem 277 = .ok (.getfield 18, 3) := by decide +kernel
theorem dX4_readsItem_280 : decode cX4_readsItem 280 = .ok (.iconst 0, 1) := by decide +kernel
theorem dX4_readsItem_281 : decode cX4_readsItem 281 = .ok (.iaload, 1) := by decide +kernel
theorem dX4_readsItem_282 : decode cX4_readsItem 282 = .ok (.invokevirtual 72, 3) := by decide +kernel
theorem dX4_readsItem_285 : decode cX4_readsItem 285 = .ok (.ifCond .eq 7, 3) := by decide +kernel
theorem dX4_readsItem_288 : decode cX4_readsItem 288 = .ok (.iconst 1, 1) := by decide +kernel
theorem dX4_readsItem_289 : decode cX4_readsItem 289 = .ok (.goto 4, 3) := by decide +kernel
theorem dX4_readsItem_292 : decode cX4_readsItem 292 = .ok (.iconst 0, 1) := by decide +kernel
theorem dX4_readsItem_293 : decode cX4_readsItem 293 = .ok (.ireturn, 1) := by decide +kernel
theorem dX4_readsItem_294 : decode cX4_readsItem 294 = .ok (.aload_n 0, 1) := by decide +kernel
theorem dX4_readsItem_295 : decode cX4_readsItem 295 = .ok (.invokevirtual 75, 3) := by decide +kernel
theorem dX4_readsItem_298 : decode cX4_readsItem 298 = .ok (.ifCond .eq 24, 3) := by decide +kernel
theorem dX4_readsItem_301 : decode cX4_readsItem 301 = .ok (.aload_n 0, 1) := by decide +kernel
theorem dX4_readsItem_302 : decode cX4_readsItem 302 = .ok (.getfield 12, 3) := by decide +kernel
theorem dX4_readsItem_305 : decode cX4_readsItem 305 = .ok (.getfield 78, 3) := by decide +kernel
theorem dX4_readsItem_308 : decode cX4_readsItem 308 = .ok (.aload_n 0, 1) := by decide +kernel
theorem dX4_readsItem_309 : decode cX4_readsItem 309 = .ok (.getfield 27, 3) := by decide +kernel
theorem dX4_readsItem_312 : decode cX4_readsItem 312 = .ok (.invokevirtual 82, 3) := by decide +kernel
theorem dX4_readsItem_315 : decode cX4_readsItem 315 = .ok (.ifCond .eq 7, 3) := by decide +kernel
theorem dX4_readsItem_318 : decode cX4_readsItem 318 = .ok (.iconst 1, 1) := by decide +kernel
theorem dX4_readsItem_319 : decode cX4_readsItem 319 = .ok (.goto 4, 3) := by decide +kernel
theorem dX4_readsItem_322 : decode cX4_readsItem 322 = .ok (.iconst 0, 1) := by decide +kernel
theorem dX4_readsItem_323 : decode cX4_readsItem 323 = .ok (.ireturn, 1) := by decide +kernel
theorem dX4_readsItem_324 : decode cX4_readsItem 324 = .ok (.iconst 0, 1) := by decide +kernel
theorem dX4_readsItem_325 : decode cX4_readsItem 325 = .ok (.ireturn, 1) := by decide +kernel
set_option maxRecDepth 20000 in
theorem ggX4_readsNumbers_X4_takeFigure : GoodIn wsX4_readsNumbers wsX4_takeFigure := goodIn_r _ [6, 7, 8, 9, 10, 15, 16, 17, 18, 19, 20, 21] (by decide +kernel) (by decide +kernel)
set_option maxRecDepth 20000 in
theorem gX4_readsNumbers_X4_takeFigure : GoodIn wsX4_readsNumbers (wsV RX4 88 RX4 yX4_takeFigure wsX4_takeFigure) := goodIn_app (goodIn_of _ (by decide +kernel)) ggX4_readsNumbers_X4_takeFigure
set_option maxRecDepth 20000 in
theorem ggX4_readsNumbers_X4_takesSign : GoodIn wsX4_readsNumbers wsX4_takesSign := goodIn_r _ [14, 7, 8, 9, 10, 15, 16, 17, 18, 19, 20, 21] (by decide +kernel) (by decide +kernel)
set_option maxRecDepth 20000 in
theorem gX4_readsNumbers_X4_takesSign : GoodIn wsX4_readsNumbers (wsV RX4 92 RX4 yX4_takesSign wsX4_takesSign) := goodIn_app (goodIn_of _ (by decide +kernel)) ggX4_readsNumbers_X4_takesSign
theorem dX4_readsNumbers_0 : decode cX4_readsNumbers 0 = .ok (.iconst 0, 1) := by decide +kernel
theorem dX4_readsNumbers_1 : decode cX4_readsNumbers 1 = .ok (.istore_n 2, 1) := by decide +kernel
theorem dX4_readsNumbers_2 : decode cX4_readsNumbers 2 = .ok (.iload_n 2, 1) := by decide +kernel
theorem dX4_readsNumbers_3 : decode cX4_readsNumbers 3 = .ok (.iload_n 1, 1) := by decide +kernel
theorem dX4_readsNumbers_4 : decode cX4_readsNumbers 4 = .ok (.if_icmp .ge 84, 3) := by decide +kernel
theorem dX4_readsNumbers_7 : decode cX4_readsNumbers 7 = .ok (.iload_n 2, 1) := by decide +kernel
theorem dX4_readsNumbers_8 : decode cX4_readsNumbers 8 = .ok (.aload_n 0, 1) := by decide +kernel
theorem dX4_readsNumbers_9 : decode cX4_readsNumbers 9 = .ok (.getfield 18, 3) := by decide +kernel
theorem dX4_readsNumbers_12 : decode cX4_readsNumbers 12 = .ok (.arraylength, 1) := by decide +kernel
theorem dX4_readsNumbers_13 : decode cX4_readsNumbers 13 = .ok (.if_icmp .ge 75, 3) := by decide +kernel
theorem dX4_readsNumbers_16 : decode cX4_readsNumbers 16 = .ok (.aload_n 0, 1) := by decide +kernel
theorem dX4_readsNumbers_17 : decode cX4_readsNumbers 17 = .ok (.bipush 10, 2) := by decide +kernel
theorem dX4_readsNumbers_19 : decode cX4_readsNumbers 19 = .ok (.invokevirtual 88, 3) := by decide +kernel
theorem dX4_readsNumbers_22 : decode cX4_readsNumbers 22 = .ok (.istore_n 3, 1) := by decide +kernel
theorem dX4_readsNumbers_23 : decode cX4_readsNumbers 23 = .ok (.iload_n 3, 1) := by decide +kernel
theorem dX4_readsNumbers_24 : decode cX4_readsNumbers 24 = .ok (.ifCond .ge 5, 3) := by decide +kernel
theorem dX4_readsNumbers_27 : decode cX4_readsNumbers 27 = .ok (.iconst 0, 1) := by decide +kernel
theorem dX4_readsNumbers_28 : decode cX4_readsNumbers 28 = .ok (.ireturn, 1) := by decide +kernel
theorem dX4_readsNumbers_29 : decode cX4_readsNumbers 29 = .ok (.aload_n 0, 1) := by decide +kernel
theorem dX4_readsNumbers_30 : decode cX4_readsNumbers 30 = .ok (.bipush 10, 2) := by decide +kernel
theorem dX4_readsNumbers_32 : decode cX4_readsNumbers 32 = .ok (.invokevirtual 88, 3) := by decide +kernel
theorem dX4_readsNumbers_35 : decode cX4_readsNumbers 35 = .ok (.istore 4, 2) := by decide +kernel
theorem dX4_readsNumbers_37 : decode cX4_readsNumbers 37 = .ok (.aload_n 0, 1) := by decide +kernel
theorem dX4_readsNumbers_38 : decode cX4_readsNumbers 38 = .ok (.getfield 18, 3) := by decide +kernel
theorem dX4_readsNumbers_41 : decode cX4_readsNumbers 41 = .ok (.iload_n 2, 1) := by decide +kernel
theorem dX4_readsNumbers_42 : decode cX4_readsNumbers 42 = .ok (.iload 4, 2) := by decide +kernel
theorem dX4_readsNumbers_44 : decode cX4_readsNumbers 44 = .ok (.ifCond .ge 7, 3) := by decide +kernel
theorem dX4_readsNumbers_47 : decode cX4_readsNumbers 47 = .ok (.iload_n 3, 1) := by decide +kernel
theorem dX4_readsNumbers_48 : decode cX4_readsNumbers 48 = .ok (.goto 10, 3) := by decide +kernel
theorem dX4_readsNumbers_51 : decode cX4_readsNumbers 51 = .ok (.bipush 10, 2) := by decide +kernel
theorem dX4_readsNumbers_53 : decode cX4_readsNumbers 53 = .ok (.iload_n 3, 1) := by decide +kernel
theorem dX4_readsNumbers_54 : decode cX4_readsNumbers 54 = .ok (.imul, 1) := by decide +kernel
theorem dX4_readsNumbers_55 : decode cX4_readsNumbers 55 = .ok (.iload 4, 2) := by decide +kernel
theorem dX4_readsNumbers_57 : decode cX4_readsNumbers 57 = .ok (.iadd, 1) := by decide +kernel
theorem dX4_readsNumbers_58 : decode cX4_readsNumbers 58 = .ok (.iastore, 1) := by decide +kernel
theorem dX4_readsNumbers_59 : decode cX4_readsNumbers 59 = .ok (.aload_n 0, 1) := by decide +kernel
theorem dX4_readsNumbers_60 : decode cX4_readsNumbers 60 = .ok (.iload_n 2, 1) := by decide +kernel
theorem dX4_readsNumbers_61 : decode cX4_readsNumbers 61 = .ok (.iload_n 1, 1) := by decide +kernel
theorem dX4_readsNumbers_62 : decode cX4_readsNumbers 62 = .ok (.iconst 1, 1) := by decide +kernel
theorem dX4_readsNumbers_63 : decode cX4_readsNumbers 63 = .ok (.isub, 1) := by decide +kernel
theorem dX4_readsNumbers_64 : decode cX4_readsNumbers 64 = .ok (.if_icmp .ne 8, 3) := by decide +kernel
theorem dX4_readsNumbers_67 : decode cX4_readsNumbers 67 = .ok (.bipush 59, 2) := by decide +kernel
theorem dX4_readsNumbers_69 : decode cX4_readsNumbers 69 = .ok (.goto 5, 3) := by decide +kernel
theorem dX4_readsNumbers_72 : decode cX4_readsNumbers 72 = .ok (.bipush 44, 2) := by decide +kernel
theorem dX4_readsNumbers_74 : decode cX4_readsNumbers 74 = .ok (.invokevirtual 92, 3) := by decide +kernel
theorem dX4_readsNumbers_77 : decode cX4_readsNumbers 77 = .ok (.ifCond .ne 5, 3) := by decide +kernel
theorem dX4_readsNumbers_80 : decode cX4_readsNumbers 80 = .ok (.iconst 0, 1) := by decide +kernel
theorem dX4_readsNumbers_81 : decode cX4_readsNumbers 81 = .ok (.ireturn, 1) := by decide +kernel
theorem dX4_readsNumbers_82 : decode cX4_readsNumbers 82 = .ok (.iinc 2 1, 3) := by decide +kernel
theorem dX4_readsNumbers_85 : decode cX4_readsNumbers 85 = .ok (.goto (-83), 3) := by decide +kernel
theorem dX4_readsNumbers_88 : decode cX4_readsNumbers 88 = .ok (.iconst 1, 1) := by decide +kernel
theorem dX4_readsNumbers_89 : decode cX4_readsNumbers 89 = .ok (.ireturn, 1) := by decide +kernel
set_option maxRecDepth 20000 in
theorem ggX4_readsWord_X4_takeFigure : GoodIn wsX4_readsWord wsX4_takeFigure := goodIn_r _ [7, 8, 9, 10, 11, 23, 24, 25, 26, 27, 30, 31] (by decide +kernel) (by decide +kernel)
set_option maxRecDepth 20000 in
theorem gX4_readsWord_X4_takeFigure : GoodIn wsX4_readsWord (wsV RX4 88 RX4 yX4_takeFigure wsX4_takeFigure) := goodIn_app (goodIn_of _ (by decide +kernel)) ggX4_readsWord_X4_takeFigure
set_option maxRecDepth 20000 in
theorem ggX4_readsWord_X7_append : GoodIn wsX4_readsWord wsX7_append := goodIn_r _ [16, 17, 18, 28, 29] (by decide +kernel) (by decide +kernel)
set_option maxRecDepth 20000 in
theorem gX4_readsWord_X7_append : GoodIn wsX4_readsWord (wsV RX4 97 RX7 yX7_append wsX7_append) := goodIn_app (goodIn_of _ (by decide +kernel)) ggX4_readsWord_X7_append
set_option maxRecDepth 20000 in
theorem ggX4_readsWord_X4_takesSign : GoodIn wsX4_readsWord wsX4_takesSign := goodIn_r _ [22, 8, 9, 10, 11, 23, 24, 25, 26, 27, 30, 31] (by decide +kernel) (by decide +kernel)
set_option maxRecDepth 20000 in
theorem gX4_readsWord_X4_takesSign : GoodIn wsX4_readsWord (wsV RX4 92 RX4 yX4_takesSign wsX4_takesSign) := goodIn_app (goodIn_of _ (by decide +kernel)) ggX4_readsWord_X4_takesSign
theorem dX4_readsWord_0 : decode cX4_readsWord 0 = .ok (.aload_n 0, 1) := by decide +kernel
theorem dX4_readsWord_1 : decode cX4_readsWord 1 = .ok (.getfield 27, 3) := by decide +kernel
theorem dX4_readsWord_4 : decode cX4_readsWord 4 = .ok (.iconst 0, 1) := by decide +kernel
theorem dX4_readsWord_5 : decode cX4_readsWord 5 = .ok (.putfield 96, 3) := by decide +kernel
theorem dX4_readsWord_8 : decode cX4_readsWord 8 = .ok (.iconst 0, 1) := by decide +kernel
theorem dX4_readsWord_9 : decode cX4_readsWord 9 = .ok (.istore_n 1, 1) := by decide +kernel
theorem dX4_readsWord_10 : decode cX4_readsWord 10 = .ok (.iload_n 1, 1) := by decide +kernel
theorem dX4_readsWord_11 : decode cX4_readsWord 11 = .ok (.iconst 4, 1) := by decide +kernel
theorem dX4_readsWord_12 : decode cX4_readsWord 12 = .ok (.if_icmp .ge 32, 3) := by decide +kernel
theorem dX4_readsWord_15 : decode cX4_readsWord 15 = .ok (.aload_n 0, 1) := by decide +kernel
theorem dX4_readsWord_16 : decode cX4_readsWord 16 = .ok (.bipush 8, 2) := by decide +kernel
theorem dX4_readsWord_18 : decode cX4_readsWord 18 = .ok (.invokevirtual 88, 3) := by decide +kernel
theorem dX4_readsWord_21 : decode cX4_readsWord 21 = .ok (.istore_n 2, 1) := by decide +kernel
theorem dX4_readsWord_22 : decode cX4_readsWord 22 = .ok (.iload_n 2, 1) := by decide +kernel
theorem dX4_readsWord_23 : decode cX4_readsWord 23 = .ok (.ifCond .ge 6, 3) := by decide +kernel
theorem dX4_readsWord_26 : decode cX4_readsWord 26 = .ok (.goto 18, 3) := by decide +kernel
theorem dX4_readsWord_29 : decode cX4_readsWord 29 = .ok (.aload_n 0, 1) := by decide +kernel
theorem dX4_readsWord_30 : decode cX4_readsWord 30 = .ok (.getfield 27, 3) := by decide +kernel
theorem dX4_readsWord_33 : decode cX4_readsWord 33 = .ok (.iload_n 2, 1) := by decide +kernel
theorem dX4_readsWord_34 : decode cX4_readsWord 34 = .ok (.invokevirtual 97, 3) := by decide +kernel
theorem dX4_readsWord_37 : decode cX4_readsWord 37 = .ok (.pop, 1) := by decide +kernel
theorem dX4_readsWord_38 : decode cX4_readsWord 38 = .ok (.iinc 1 1, 3) := by decide +kernel
theorem dX4_readsWord_41 : decode cX4_readsWord 41 = .ok (.goto (-31), 3) := by decide +kernel
theorem dX4_readsWord_44 : decode cX4_readsWord 44 = .ok (.aload_n 0, 1) := by decide +kernel
theorem dX4_readsWord_45 : decode cX4_readsWord 45 = .ok (.getfield 27, 3) := by decide +kernel
theorem dX4_readsWord_48 : decode cX4_readsWord 48 = .ok (.getfield 96, 3) := by decide +kernel
theorem dX4_readsWord_51 : decode cX4_readsWord 51 = .ok (.ifCond .le 16, 3) := by decide +kernel
theorem dX4_readsWord_54 : decode cX4_readsWord 54 = .ok (.aload_n 0, 1) := by decide +kernel
theorem dX4_readsWord_55 : decode cX4_readsWord 55 = .ok (.bipush 59, 2) := by decide +kernel
theorem dX4_readsWord_57 : decode cX4_readsWord 57 = .ok (.invokevirtual 92, 3) := by decide +kernel
theorem dX4_readsWord_60 : decode cX4_readsWord 60 = .ok (.ifCond .eq 7, 3) := by decide +kernel
theorem dX4_readsWord_63 : decode cX4_readsWord 63 = .ok (.iconst 1, 1) := by decide +kernel
theorem dX4_readsWord_64 : decode cX4_readsWord 64 = .ok (.goto 4, 3) := by decide +kernel
theorem dX4_readsWord_67 : decode cX4_readsWord 67 = .ok (.iconst 0, 1) := by decide +kernel
theorem dX4_readsWord_68 : decode cX4_readsWord 68 = .ok (.ireturn, 1) := by decide +kernel
theorem dX4_takeFigure_0 : decode cX4_takeFigure 0 = .ok (.aload_n 0, 1) := by decide +kernel
theorem dX4_takeFigure_1 : decode cX4_takeFigure 1 = .ok (.getfield 38, 3) := by decide +kernel
theorem dX4_takeFigure_4 : decode cX4_takeFigure 4 = .ok (.aload_n 0, 1) := by decide +kernel
theorem dX4_takeFigure_5 : decode cX4_takeFigure 5 = .ok (.getfield 31, 3) := by decide +kernel
theorem dX4_takeFigure_8 : decode cX4_takeFigure 8 = .ok (.getfield 42, 3) := by decide +kernel
theorem dX4_takeFigure_11 : decode cX4_takeFigure 11 = .ok (.if_icmp .lt 5, 3) := by decide +kernel
theorem dX4_takeFigure_14 : decode cX4_takeFigure 14 = .ok (.iconst (-1), 1) := by decide +kernel
theorem dX4_takeFigure_15 : decode cX4_takeFigure 15 = .ok (.ireturn, 1) := by decide +kernel
theorem dX4_takeFigure_16 : decode cX4_takeFigure 16 = .ok (.aload_n 0, 1) := by decide +kernel
theorem dX4_takeFigure_17 : decode cX4_takeFigure 17 = .ok (.getfield 31, 3) := by decide +kernel
theorem dX4_takeFigure_20 : decode cX4_takeFigure 20 = .ok (.getfield 51, 3) := by decide +kernel
theorem dX4_takeFigure_23 : decode cX4_takeFigure 23 = .ok (.aload_n 0, 1) := by decide +kernel
theorem dX4_takeFigure_24 : decode cX4_takeFigure 24 = .ok (.getfield 38, 3) := by decide +kernel
theorem dX4_takeFigure_27 : decode cX4_takeFigure 27 = .ok (.baload, 1) := by decide +kernel
theorem dX4_takeFigure_28 : decode cX4_takeFigure 28 = .ok (.bipush 48, 2) := by decide +kernel
theorem dX4_takeFigure_30 : decode cX4_takeFigure 30 = .ok (.isub, 1) := by decide +kernel
theorem dX4_takeFigure_31 : decode cX4_takeFigure 31 = .ok (.istore_n 2, 1) := by decide +kernel
theorem dX4_takeFigure_32 : decode cX4_takeFigure 32 = .ok (.iload_n 2, 1) := by decide +kernel
theorem dX4_takeFigure_33 : decode cX4_takeFigure 33 = .ok (.ifCond .lt 8, 3) := by decide +kernel
theorem dX4_takeFigure_36 : decode cX4_takeFigure 36 = .ok (.iload_n 2, 1) := by decide +kernel
theorem dX4_takeFigure_37 : decode cX4_takeFigure 37 = .ok (.iload_n 1, 1) := by decide +kernel
theorem dX4_takeFigure_38 : decode cX4_takeFigure 38 = .ok (.if_icmp .lt 5, 3) := by decide +kernel
theorem dX4_takeFigure_41 : decode cX4_takeFigure 41 = .ok (.iconst (-1), 1) := by decide +kernel
theorem dX4_takeFigure_42 : decode cX4_takeFigure 42 = .ok (.ireturn, 1) := by decide +kernel
theorem dX4_takeFigure_43 : decode cX4_takeFigure 43 = .ok (.aload_n 0, 1) := by decide +kernel
theorem dX4_takeFigure_44 : decode cX4_takeFigure 44 = .ok (.dup, 1) := by decide +kernel
theorem dX4_takeFigure_45 : decode cX4_takeFigure 45 = .ok (.getfield 38, 3) := by decide +kernel
theorem dX4_takeFigure_48 : decode cX4_takeFigure 48 = .ok (.iconst 1, 1) := by decide +kernel
theorem dX4_takeFigure_49 : decode cX4_takeFigure 49 = .ok (.iadd, 1) := by decide +kernel
theorem dX4_takeFigure_50 : decode cX4_takeFigure 50 = .ok (.putfield 38, 3) := by decide +kernel
theorem dX4_takeFigure_53 : decode cX4_takeFigure 53 = .ok (.iload_n 2, 1) := by decide +kernel
theorem dX4_takeFigure_54 : decode cX4_takeFigure 54 = .ok (.ireturn, 1) := by decide +kernel
theorem dX4_takesSign_0 : decode cX4_takesSign 0 = .ok (.aload_n 0, 1) := by decide +kernel
theorem dX4_takesSign_1 : decode cX4_takesSign 1 = .ok (.getfield 38, 3) := by decide +kernel
theorem dX4_takesSign_4 : decode cX4_takesSign 4 = .ok (.aload_n 0, 1) := by decide +kernel
theorem dX4_takesSign_5 : decode cX4_takesSign 5 = .ok (.getfield 31, 3) := by decide +kernel
theorem dX4_takesSign_8 : decode cX4_takesSign 8 = .ok (.getfield 42, 3) := by decide +kernel
theorem dX4_takesSign_11 : decode cX4_takesSign 11 = .ok (.if_icmp .ge 19, 3) := by decide +kernel
theorem dX4_takesSign_14 : decode cX4_takesSign 14 = .ok (.aload_n 0, 1) := by decide +kernel
theorem dX4_takesSign_15 : decode cX4_takesSign 15 = .ok (.getfield 31, 3) := by decide +kernel
theorem dX4_takesSign_18 : decode cX4_takesSign 18 = .ok (.getfield 51, 3) := by decide +kernel
theorem dX4_takesSign_21 : decode cX4_takesSign 21 = .ok (.aload_n 0, 1) := by decide +kernel
theorem dX4_takesSign_22 : decode cX4_takesSign 22 = .ok (.getfield 38, 3) := by decide +kernel
theorem dX4_takesSign_25 : decode cX4_takesSign 25 = .ok (.baload, 1) := by decide +kernel
theorem dX4_takesSign_26 : decode cX4_takesSign 26 = .ok (.iload_n 1, 1) := by decide +kernel
theorem dX4_takesSign_27 : decode cX4_takesSign 27 = .ok (.if_icmp .eq 5, 3) := by decide +kernel
theorem dX4_takesSign_30 : decode cX4_takesSign 30 = .ok (.iconst 0, 1) := by decide +kernel
theorem dX4_takesSign_31 : decode cX4_takesSign 31 = .ok (.ireturn, 1) := by decide +kernel
theorem dX4_takesSign_32 : decode cX4_takesSign 32 = .ok (.aload_n 0, 1) := by decide +kernel
theorem dX4_takesSign_33 : decode cX4_takesSign 33 = .ok (.dup, 1) := by decide +kernel
theorem dX4_takesSign_34 : decode cX4_takesSign 34 = .ok (.getfield 38, 3) := by decide +kernel
theorem dX4_takesSign_37 : decode cX4_takesSign 37 = .ok (.iconst 1, 1) := by decide +kernel
theorem dX4_takesSign_38 : decode cX4_takesSign 38 = .ok (.iadd, 1) := by decide +kernel
theorem dX4_takesSign_39 : decode cX4_takesSign 39 = .ok (.putfield 38, 3) := by decide +kernel
theorem dX4_takesSign_42 : decode cX4_takesSign 42 = .ok (.iconst 1, 1) := by decide +kernel
theorem dX4_takesSign_43 : decode cX4_takesSign 43 = .ok (.ireturn, 1) := by decide +kernel
theorem dX5_init_0 : decode cX5_init 0 = .ok (.aload_n 0, 1) := by decide +kernel
theorem dX5_init_1 : decode cX5_init 1 = .ok (.invokespecial 3, 3) := by decide +kernel
theorem dX5_init_4 : decode cX5_init 4 = .ok (.aload_n 0, 1) := by decide +kernel
theorem dX5_init_5 : decode cX5_init 5 = .ok (.aload_n 1, 1) := by decide +kernel
theorem dX5_init_6 : decode cX5_init 6 = .ok (.putfield 9, 3) := by decide +kernel
theorem dX5_init_9 : decode cX5_init 9 = .ok (.aload_n 0, 1) := by decide +kernel
theorem dX5_init_10 : decode cX5_init 10 = .ok (.iload_n 2, 1) := by decide +kernel
theorem dX5_init_11 : decode cX5_init 11 = .ok (.newarray .int, 2) := by decide +kernel
theorem dX5_init_13 : decode cX5_init 13 = .ok (.putfield 15, 3) := by decide +kernel
theorem dX5_init_16 : decode cX5_init 16 = .ok (.aload_n 0, 1) := by decide +kernel
theorem dX5_init_17 : decode cX5_init 17 = .ok (.iload_n 2, 1) := by decide +kernel
theorem dX5_init_18 : decode cX5_init 18 = .ok (.newarray .int, 2) := by decide +kernel
theorem dX5_init_20 : decode cX5_init 20 = .ok (.putfield 19, 3) := by decide +kernel
theorem dX5_init_23 : decode cX5_init 23 = .ok (.aload_n 0, 1) := by decide +kernel
theorem dX5_init_24 : decode cX5_init 24 = .ok (.iload_n 2, 1) := by decide +kernel
theorem dX5_init_25 : decode cX5_init 25 = .ok (.newarray .int, 2) := by decide +kernel
theorem dX5_init_27 : decode cX5_init 27 = .ok (.putfield 22, 3) := by decide +kernel
theorem dX5_init_30 : decode cX5_init 30 = .ok (.return_, 1) := by decide +kernel
theorem dX5_empty_0 : decode cX5_empty 0 = .ok (.aload_n 0, 1) := by decide +kernel
theorem dX5_empty_1 : decode cX5_empty 1 = .ok (.iconst 0, 1) := by decide +kernel
theorem dX5_empty_2 : decode cX5_empty 2 = .ok (.putfield 25, 3) := by decide +kernel
theorem dX5_empty_5 : decode cX5_empty 5 = .ok (.aload_n 0, 1) := by decide +kernel
theorem dX5_empty_6 : decode cX5_empty 6 = .ok (.iconst 0, 1) := by decide +kernel
theorem dX5_empty_7 : decode cX5_empty 7 = .ok (.putfield 29, 3) := by decide +kernel
theorem dX5_empty_10 : decode cX5_empty 10 = .ok (.return_, 1) := by decide +kernel
theorem dX5_copyFrom_0 : decode cX5_copyFrom 0 = .ok (.aload_n 0, 1) := by decide +kernel
theorem dX5_copyFrom_1 : decode cX5_copyFrom 1 = .ok (.aload_n 1, 1) := by decide +kernel
theorem dX5_copyFrom_2 : decode cX5_copyFrom 2 = .ok (.getfield 25, 3) := by decide +kernel
theorem dX5_copyFrom_5 : decode cX5_copyFrom 5 = .ok (.aload_n 0, 1) := by decide +kernel
theorem dX5_copyFrom_6 : decode cX5_copyFrom 6 = .ok (.getfield 15, 3) := by decide +kernel
theorem dX5_copyFrom_9 : decode cX5_copyFrom 9 = .ok (.arraylength, 1) := by decide +kernel
theorem dX5_copyFrom_10 : decode cX5_copyFrom 10 = .ok (.invokestatic 32, 3) := by decide +kernel
theorem dX5_copyFrom_13 : decode cX5_copyFrom 13 = .ok (.putfield 25, 3) := by decide +kernel
theorem dX5_copyFrom_16 : decode cX5_copyFrom 16 = .ok (.aload_n 0, 1) := by decide +kernel
theorem dX5_copyFrom_17 : decode cX5_copyFrom 17 = .ok (.aload_n 1, 1) := by decide +kernel
theorem dX5_copyFrom_18 : decode cX5_copyFrom 18 = .ok (.getfield 29, 3) := by decide +kernel
theorem dX5_copyFrom_21 : decode cX5_copyFrom 21 = .ok (.putfield 29, 3) := by decide +kernel
theorem dX5_copyFrom_24 : decode cX5_copyFrom 24 = .ok (.iconst 0, 1) := by decide +kernel
theorem dX5_copyFrom_25 : decode cX5_copyFrom 25 = .ok (.istore_n 2, 1) := by decide +kernel
theorem dX5_copyFrom_26 : decode cX5_copyFrom 26 = .ok (.iload_n 2, 1) := by decide +kernel
theorem dX5_copyFrom_27 : decode cX5_copyFrom 27 = .ok (.aload_n 0, 1) := by decide +kernel
theorem dX5_copyFrom_28 : decode cX5_copyFrom 28 = .ok (.getfield 25, 3) := by decide +kernel
theorem dX5_copyFrom_31 : decode cX5_copyFrom 31 = .ok (.if_icmp .ge 45, 3) := by decide +kernel
theorem dX5_copyFrom_34 : decode cX5_copyFrom 34 = .ok (.aload_n 0, 1) := by decide +kernel
theorem dX5_copyFrom_35 : decode cX5_copyFrom 35 = .ok (.getfield 15, 3) := by decide +kernel
theorem dX5_copyFrom_38 : decode cX5_copyFrom 38 = .ok (.iload_n 2, 1) := by decide +kernel
theorem dX5_copyFrom_39 : decode cX5_copyFrom 39 = .ok (.aload_n 1, 1) := by decide +kernel
theorem dX5_copyFrom_40 : decode cX5_copyFrom 40 = .ok (.getfield 15, 3) := by decide +kernel
theorem dX5_copyFrom_43 : decode cX5_copyFrom 43 = .ok (.iload_n 2, 1) := by decide +kernel
theorem dX5_copyFrom_44 : decode cX5_copyFrom 44 = .ok (.iaload, 1) := by decide +kernel
theorem dX5_copyFrom_45 : decode cX5_copyFrom 45 = .ok (.iastore, 1) := by decide +kernel
theorem dX5_copyFrom_46 : decode cX5_copyFrom 46 = .ok (.aload_n 0, 1) := by decide +kernel
theorem dX5_copyFrom_47 : decode cX5_copyFrom 47 = .ok (.getfield 19, 3) := by decide +kernel
theorem dX5_copyFrom_50 : decode cX5_copyFrom 50 = .ok (.iload_n 2, 1) := by decide +kernel
theorem dX5_copyFrom_51 : decode cX5_copyFrom 51 = .ok (.aload_n 1, 1) := by decide +kernel
theorem dX5_copyFrom_52 : decode cX5_copyFrom 52 = .ok (.getfield 19, 3) := by decide +kernel
theorem dX5_copyFrom_55 : decode cX5_copyFrom 55 = .ok (.iload_n 2, 1) := by decide +kernel
theorem dX5_copyFrom_56 : decode cX5_copyFrom 56 = .ok (.iaload, 1) := by decide +kernel
theorem dX5_copyFrom_57 : decode cX5_copyFrom 57 = .ok (.iastore, 1) := by decide +kernel
theorem dX5_copyFrom_58 : decode cX5_copyFrom 58 = .ok (.aload_n 0, 1) := by decide +kernel
theorem dX5_copyFrom_59 : decode cX5_copyFrom 59 = .ok (.getfield 22, 3) := by decide +kernel
theorem dX5_copyFrom_62 : decode cX5_copyFrom 62 = .ok (.iload_n 2, 1) := by decide +kernel
theorem dX5_copyFrom_63 : decode cX5_copyFrom 63 = .ok (.aload_n 1, 1) := by decide +kernel
theorem dX5_copyFrom_64 : decode cX5_copyFrom 64 = .ok (.getfield 22, 3) := by decide +kernel
theorem dX5_copyFrom_67 : decode cX5_copyFrom 67 = .ok (.iload_n 2, 1) := by decide +kernel
theorem dX5_copyFrom_68 : decode cX5_copyFrom 68 = .ok (.iaload, 1) := by decide +kernel
theorem dX5_copyFrom_69 : decode cX5_copyFrom 69 = .ok (.iastore, 1) := by decide +kernel
theorem dX5_copyFrom_70 : decode cX5_copyFrom 70 = .ok (.iinc 2 1, 3) := by decide +kernel
theorem dX5_copyFrom_73 : decode cX5_copyFrom 73 = .ok (.goto (-47), 3) := by decide +kernel
theorem dX5_copyFrom_76 : decode cX5_copyFrom 76 = .ok (.return_, 1) := by decide +kernel
set_option maxRecDepth 20000 in
theorem ggX5_hearTo_X5_hear : GoodIn wsX5_hearTo wsX5_hear := goodIn_r _ [9, 10, 11, 12, 13, 14, 15, 16, 8, 17, 18, 19, 20, 21, 22, 23, 24, 25, 26, 27, 28, 29, 30, 35, 36, 37, 38, 39, 40, 41] (by decide +kernel) (by decide +kernel)
set_option maxRecDepth 20000 in
theorem gX5_hearTo_X5_hear : GoodIn wsX5_hearTo (wsV RX5 43 RX5 yX5_hear wsX5_hear) := goodIn_app (goodIn_of _ (by decide +kernel)) ggX5_hearTo_X5_hear
theorem dX5_hearTo_0 : decode cX5_hearTo 0 = .ok (.aload_n 0, 1) := by decide +kernel
theorem dX5_hearTo_1 : decode cX5_hearTo 1 = .ok (.getfield 29, 3) := by decide +kernel
theorem dX5_hearTo_4 : decode cX5_hearTo 4 = .ok (.aload_n 1, 1) := by decide +kernel
theorem dX5_hearTo_5 : decode cX5_hearTo 5 = .ok (.getfield 38, 3) := by decide +kernel
theorem dX5_hearTo_8 : decode cX5_hearTo 8 = .ok (.if_icmp .ge 55, 3) := by decide +kernel
theorem dX5_hearTo_11 : decode cX5_hearTo 11 = .ok (.aload_n 1, 1) := by decide +kernel
theorem dX5_hearTo_12 : decode cX5_hearTo 12 = .ok (.getfield 41, 3) := by decide +kernel
theorem dX5_hearTo_15 : decode cX5_hearTo 15 = .ok (.aload_n 0, 1) := by decide +kernel
theorem dX5_hearTo_16 : decode cX5_hearTo 16 = .ok (.getfield 29, 3) := by decide +kernel
theorem dX5_hearTo_19 : decode cX5_hearTo 19 = .ok (.iaload, 1) := by decide +kernel
theorem dX5_hearTo_20 : decode cX5_hearTo 20 = .ok (.iload_n 2, 1) := by decide +kernel
theorem dX5_hearTo_21 : decode cX5_hearTo 21 = .ok (.if_icmp .gt 42, 3) := by decide +kernel
theorem dX5_hearTo_24 : decode cX5_hearTo 24 = .ok (.aload_n 0, 1) := by decide +kernel
theorem dX5_hearTo_25 : decode cX5_hearTo 25 = .ok (.aload_n 1, 1) := by decide +kernel
theorem dX5_hearTo_26 : decode cX5_hearTo 26 = .ok (.getfield 42, 3) := by decide +kernel
theorem dX5_hearTo_29 : decode cX5_hearTo 29 = .ok (.aload_n 0, 1) := by decide +kernel
theorem dX5_hearTo_30 : decode cX5_hearTo 30 = .ok (.getfield 29, 3) := by decide +kernel
theorem dX5_hearTo_33 : decode cX5_hearTo 33 = .ok (.iaload, 1) := by decide +kernel
theorem dX5_hearTo_34 : decode cX5_hearTo 34 = .ok (.aload_n 1, 1) := by decide +kernel
theorem dX5_hearTo_35 : decode cX5_hearTo 35 = .ok (.getfield 41, 3) := by decide +kernel
theorem dX5_hearTo_38 : decode cX5_hearTo 38 = .ok (.aload_n 0, 1) := by decide +kernel
theorem dX5_hearTo_39 : decode cX5_hearTo 39 = .ok (.getfield 29, 3) := by decide +kernel
theorem dX5_hearTo_42 : decode cX5_hearTo 42 = .ok (.iaload, 1) := by decide +kernel
theorem dX5_hearTo_43 : decode cX5_hearTo 43 = .ok (.aload_n 0, 1) := by decide +kernel
theorem dX5_hearTo_44 : decode cX5_hearTo 44 = .ok (.getfield 29, 3) := by decide +kernel
theorem dX5_hearTo_47 : decode cX5_hearTo 47 = .ok (.invokevirtual 43, 3) := by decide +kernel
theorem dX5_hearTo_50 : decode cX5_hearTo 50 = .ok (.aload_n 0, 1) := by decide +kernel
theorem dX5_hearTo_51 : decode cX5_hearTo 51 = .ok (.dup, 1) := by decide +kernel
theorem dX5_hearTo_52 : decode cX5_hearTo 52 = .ok (.getfield 29, 3) := by decide +kernel
theorem dX5_hearTo_55 : decode cX5_hearTo 55 = .ok (.iconst 1, 1) := by decide +kernel
theorem dX5_hearTo_56 : decode cX5_hearTo 56 = .ok (.iadd, 1) := by decide +kernel
theorem dX5_hearTo_57 : decode cX5_hearTo 57 = .ok (.putfield 29, 3) := by decide +kernel
theorem dX5_hearTo_60 : decode cX5_hearTo 60 = .ok (.goto (-60), 3) := by decide +kernel
theorem dX5_hearTo_63 : decode cX5_hearTo 63 = .ok (.return_, 1) := by decide +kernel
set_option maxRecDepth 20000 in
theorem ggX5_hearAhead_X3_isAhead : GoodIn wsX5_hearAhead wsX3_isAhead := goodIn_r _ [9, 10, 11, 38, 39, 40, 41] (by decide +kernel) (by decide +kernel)
set_option maxRecDepth 20000 in
theorem gX5_hearAhead_X3_isAhead : GoodIn wsX5_hearAhead (wsV RX5 47 RX3 yX3_isAhead wsX3_isAhead) := goodIn_app (goodIn_of _ (by decide +kernel)) ggX5_hearAhead_X3_isAhead
set_option maxRecDepth 20000 in
theorem ggX5_hearAhead_X5_hear : GoodIn wsX5_hearAhead wsX5_hear := goodIn_r _ [16, 17, 18, 19, 20, 21, 22, 23, 15, 24, 25, 26, 27, 28, 29, 30, 31, 32, 33, 34, 35, 36, 37, 42, 43, 44, 45, 46, 47, 48] (by decide +kernel) (by decide +kernel)
set_option maxRecDepth 20000 in
theorem gX5_hearAhead_X5_hear : GoodIn wsX5_hearAhead (wsV RX5 43 RX5 yX5_hear wsX5_hear) := goodIn_app (goodIn_of _ (by decide +kernel)) ggX5_hearAhead_X5_hear
theorem dX5_hearAhead_0 : decode cX5_hearAhead 0 = .ok (.aload_n 0, 1) := by decide +kernel
theorem dX5_hearAhead_1 : decode cX5_hearAhead 1 = .ok (.getfield 29, 3) := by decide +kernel
theorem dX5_hearAhead_4 : decode cX5_hearAhead 4 = .ok (.aload_n 1, 1) := by decide +kernel
theorem dX5_hearAhead_5 : decode cX5_hearAhead 5 = .ok (.getfield 38, 3) := by decide +kernel
theorem dX5_hearAhead_8 : decode cX5_hearAhead 8 = .ok (.if_icmp .ge 55, 3) := by decide +kernel
theorem dX5_hearAhead_11 : decode cX5_hearAhead 11 = .ok (.aload_n 1, 1) := by decide +kernel
theorem dX5_hearAhead_12 : decode cX5_hearAhead 12 = .ok (.aload_n 0, 1) := by decide +kernel
theorem dX5_hearAhead_13 : decode cX5_hearAhead 13 = .ok (.getfield 29, 3) := by decide +kernel
theorem dX5_hearAhead_16 : decode cX5_hearAhead 16 = .ok (.iload_n 2, 1) := by decide +kernel
theorem dX5_hearAhead_17 : decode cX5_hearAhead 17 = .ok (.iload_n 3, 1) := by decide +kernel
theorem dX5_hearAhead_18 : decode cX5_hearAhead 18 = .ok (.invokevirtual 47, 3) := by decide +kernel
theorem dX5_hearAhead_21 : decode cX5_hearAhead 21 = .ok (.ifCond .eq 42, 3) := by decide +kernel
theorem dX5_hearAhead_24 : decode cX5_hearAhead 24 = .ok (.aload_n 0, 1) := by decide +kernel
theorem dX5_hearAhead_25 : decode cX5_hearAhead 25 = .ok (.aload_n 1, 1) := by decide +kernel
theorem dX5_hearAhead_26 : decode cX5_hearAhead 26 = .ok (.getfield 42, 3) := by decide +kernel
theorem dX5_hearAhead_29 : decode cX5_hearAhead 29 = .ok (.aload_n 0, 1) := by decide +kernel
theorem dX5_hearAhead_30 : decode cX5_hearAhead 30 = .ok (.getfield 29, 3) := by decide +kernel
theorem dX5_hearAhead_33 : decode cX5_hearAhead 33 = .ok (.iaload, 1) := by decide +kernel
theorem dX5_hearAhead_34 : decode cX5_hearAhead 34 = .ok (.aload_n 1, 1) := by decide +kernel
theorem dX5_hearAhead_35 : decode cX5_hearAhead 35 = .ok (.getfield 41, 3) := by decide +kernel
theorem dX5_hearAhead_38 : decode cX5_hearAhead 38 = .ok (.aload_n 0, 1) := by decide +kernel
theorem dX5_hearAhead_39 : decode cX5_hearAhead 39 = .ok (.getfield 29, 3) := by decide +kernel
theorem dX5_hearAhead_42 : decode cX5_hearAhead 42 = .ok (.iaload, 1) := by decide +kernel
theorem dX5_hearAhead_43 : decode cX5_hearAhead 43 = .ok (.aload_n 0, 1) := by decide +kernel
theorem dX5_hearAhead_44 : decode cX5_hearAhead 44 = .ok (.getfield 29, 3) := by decide +kernel
theorem dX5_hearAhead_47 : decode cX5_hearAhead 47 = .ok (.invokevirtual 43, 3) := by decide +kernel
theorem dX5_hearAhead_50 : decode cX5_hearAhead 50 = .ok (.aload_n 0, 1) := by decide +kernel
theorem dX5_hearAhead_51 : decode cX5_hearAhead 51 = .ok (.dup, 1) := by decide +kernel
theorem dX5_hearAhead_52 : decode cX5_hearAhead 52 = .ok (.getfield 29, 3) := by decide +kernel
theorem dX5_hearAhead_55 : decode cX5_hearAhead 55 = .ok (.iconst 1, 1) := by decide +kernel
theorem dX5_hearAhead_56 : decode cX5_hearAhead 56 = .ok (.iadd, 1) := by decide +kernel
theorem dX5_hearAhead_57 : decode cX5_hearAhead 57 = .ok (.putfield 29, 3) := by decide +kernel
theorem dX5_hearAhead_60 : decode cX5_hearAhead 60 = .ok (.goto (-60), 3) := by decide +kernel
theorem dX5_hearAhead_63 : decode cX5_hearAhead 63 = .ok (.return_, 1) := by decide +kernel
set_option maxRecDepth 20000 in
theorem ggX5_hear_X5_unsaidBy : GoodIn wsX5_hear wsX5_unsaidBy := goodIn_r _ [9, 10, 11, 1, 4, 12, 2, 17, 18, 19, 20, 21, 22, 23, 24, 25, 26, 27, 28, 29] (by decide +kernel) (by decide +kernel)
set_option maxRecDepth 20000 in
theorem gX5_hear_X5_unsaidBy : GoodIn wsX5_hear (wsV RX5 51 RX5 yX5_unsaidBy wsX5_unsaidBy) := goodIn_app (goodIn_of _ (by decide +kernel)) ggX5_hear_X5_unsaidBy
set_option maxRecDepth 20000 in
theorem ggX5_hear_X5_takeOut : GoodIn wsX5_hear wsX5_takeOut := goodIn_r _ [16, 10, 11, 1, 2, 3, 4, 17, 18, 19, 20, 21, 22, 23, 24, 25, 26, 27, 28, 29] (by decide +kernel) (by decide +kernel)
set_option maxRecDepth 20000 in
theorem gX5_hear_X5_takeOut : GoodIn wsX5_hear (wsV RX5 54 RX5 yX5_takeOut wsX5_takeOut) := goodIn_app (goodIn_of _ (by decide +kernel)) ggX5_hear_X5_takeOut
theorem dX5_hear_0 : decode cX5_hear 0 = .ok (.aload_n 0, 1) := by decide +kernel
theorem dX5_hear_1 : decode cX5_hear 1 = .ok (.iload_n 1, 1) := by decide +kernel
theorem dX5_hear_2 : decode cX5_hear 2 = .ok (.iload_n 2, 1) := by decide +kernel
theorem dX5_hear_3 : decode cX5_hear 3 = .ok (.invokevirtual 51, 3) := by decide +kernel
theorem dX5_hear_6 : decode cX5_hear 6 = .ok (.istore 4, 2) := by decide +kernel
theorem dX5_hear_8 : decode cX5_hear 8 = .ok (.iload 4, 2) := by decide +kernel
theorem dX5_hear_10 : decode cX5_hear 10 = .ok (.ifCond .lt 12, 3) := by decide +kernel
theorem dX5_hear_13 : decode cX5_hear 13 = .ok (.aload_n 0, 1) := by decide +kernel
theorem dX5_hear_14 : decode cX5_hear 14 = .ok (.iload 4, 2) := by decide +kernel
theorem dX5_hear_16 : decode cX5_hear 16 = .ok (.invokevirtual 54, 3) := by decide +kernel
theorem dX5_hear_19 : decode cX5_hear 19 = .ok (.goto 55, 3) := by decide +kernel
theorem dX5_hear_22 : decode cX5_hear 22 = .ok (.aload_n 0, 1) := by decide +kernel
theorem dX5_hear_23 : decode cX5_hear 23 = .ok (.getfield 25, 3) := by decide +kernel
theorem dX5_hear_26 : decode cX5_hear 26 = .ok (.aload_n 0, 1) := by decide +kernel
theorem dX5_hear_27 : decode cX5_hear 27 = .ok (.getfield 15, 3) := by decide +kernel
theorem dX5_hear_30 : decode cX5_hear 30 = .ok (.arraylength, 1) := by decide +kernel
theorem dX5_hear_31 : decode cX5_hear 31 = .ok (.if_icmp .ge 43, 3) := by decide +kernel
theorem dX5_hear_34 : decode cX5_hear 34 = .ok (.aload_n 0, 1) := by decide +kernel
theorem dX5_hear_35 : decode cX5_hear 35 = .ok (.getfield 15, 3) := by decide +kernel
theorem dX5_hear_38 : decode cX5_hear 38 = .ok (.aload_n 0, 1) := by decide +kernel
theorem dX5_hear_39 : decode cX5_hear 39 = .ok (.getfield 25, 3) := by decide +kernel
theorem dX5_hear_42 : decode cX5_hear 42 = .ok (.iload_n 1, 1) := by decide +kernel
theorem dX5_hear_43 : decode cX5_hear 43 = .ok (.iastore, 1) := by decide +kernel
theorem dX5_hear_44 : decode cX5_hear 44 = .ok (.aload_n 0, 1) := by decide +kernel
theorem dX5_hear_45 : decode cX5_hear 45 = .ok (.getfield 19, 3) := by decide +kernel
theorem dX5_hear_48 : decode cX5_hear 48 = .ok (.aload_n 0, 1) := by decide +kernel
theorem dX5_hear_49 : decode cX5_hear 49 = .ok (.getfield 25, 3) := by decide +kernel
theorem dX5_hear_52 : decode cX5_hear 52 = .ok (.iload_n 3, 1) := by decide +kernel
theorem dX5_hear_53 : decode cX5_hear 53 = .ok (.iastore, 1) := by decide +kernel
theorem dX5_hear_54 : decode cX5_hear 54 = .ok (.aload_n 0, 1) := by decide +kernel
theorem dX5_hear_55 : decode cX5_hear 55 = .ok (.getfield 22, 3) := by decide +kernel
theorem dX5_hear_58 : decode cX5_hear 58 = .ok (.aload_n 0, 1) := by decide +kernel
theorem dX5_hear_59 : decode cX5_hear 59 = .ok (.getfield 25, 3) := by decide +kernel
theorem dX5_hear_62 : decode cX5_hear 62 = .ok (.iload_n 2, 1) := by decide +kernel
theorem dX5_hear_63 : decode cX5_hear 63 = .ok (.iastore, 1) := by decide +kernel
theorem dX5_hear_64 : decode cX5_hear 64 = .ok (.aload_n 0, 1) := by decide +kernel
theorem dX5_hear_65 : decode cX5_hear 65 = .ok (.dup, 1) := by decide +kernel
theorem dX5_hear_66 : decode cX5_hear 66 = .ok (.getfield 25, 3) := by decide +kernel
theorem dX5_hear_69 : decode cX5_hear 69 = .ok (.iconst 1, 1) := by decide +kernel
theorem dX5_hear_70 : decode cX5_hear 70 = .ok (.iadd, 1) := by decide +kernel
theorem dX5_hear_71 : decode cX5_hear 71 = .ok (.putfield 25, 3) := by decide +kernel
theorem dX5_hear_74 : decode cX5_hear 74 = .ok (.return_, 1) := by decide +kernel
set_option maxRecDepth 20000 in
theorem ggX5_wouldCome_X5_unsaidBy : GoodIn wsX5_wouldCome wsX5_unsaidBy := goodIn_r _ [5, 6, 7, 8, 9, 10, 11, 12, 13, 14, 15, 16, 17, 18, 19, 20, 21, 22, 23, 24] (by decide +kernel) (by decide +kernel)
set_option maxRecDepth 20000 in
theorem gX5_wouldCome_X5_unsaidBy : GoodIn wsX5_wouldCome (wsV RX5 51 RX5 yX5_unsaidBy wsX5_unsaidBy) := goodIn_app (goodIn_of _ (by decide +kernel)) ggX5_wouldCome_X5_unsaidBy
theorem dX5_wouldCome_0 : decode cX5_wouldCome 0 = .ok (.aload_n 0, 1) := by decide +kernel
theorem dX5_wouldCome_1 : decode cX5_wouldCome 1 = .ok (.iload_n 1, 1) := by decide +kernel
theorem dX5_wouldCome_2 : decode cX5_wouldCome 2 = .ok (.iload_n 2, 1) := by decide +kernel
theorem dX5_wouldCome_3 : decode cX5_wouldCome 3 = .ok (.invokevirtual 51, 3) := by decide +kernel
theorem dX5_wouldCome_6 : decode cX5_wouldCome 6 = .ok (.ifCond .ge 7, 3) := by decide +kernel
theorem dX5_wouldCome_9 : decode cX5_wouldCome 9 = .ok (.iconst 1, 1) := by decide +kernel
theorem dX5_wouldCome_10 : decode cX5_wouldCome 10 = .ok (.goto 4, 3) := by decide +kernel
theorem dX5_wouldCome_13 : decode cX5_wouldCome 13 = .ok (.iconst 0, 1) := by decide +kernel
theorem dX5_wouldCome_14 : decode cX5_wouldCome 14 = .ok (.ireturn, 1) := by decide +kernel
theorem dX5_unsaidBy_0 : decode cX5_unsaidBy 0 = .ok (.aload_n 0, 1) := by decide +kernel
theorem dX5_unsaidBy_1 : decode cX5_unsaidBy 1 = .ok (.getfield 9, 3) := by decide +kernel
theorem dX5_unsaidBy_4 : decode cX5_unsaidBy 4 = .ok (.getfield 58, 3) := by decide +kernel
theorem dX5_unsaidBy_7 : decode cX5_unsaidBy 7 = .ok (.iconst 2, 1) := by decide +kernel
theorem dX5_unsaidBy_8 : decode cX5_unsaidBy 8 = .ok (.if_icmp .ne 7, 3) := by decide +kernel
theorem dX5_unsaidBy_11 : decode cX5_unsaidBy 11 = .ok (.iconst 2, 1) := by decide +kernel
theorem dX5_unsaidBy_12 : decode cX5_unsaidBy 12 = .ok (.goto 4, 3) := by decide +kernel
theorem dX5_unsaidBy_15 : decode cX5_unsaidBy 15 = .ok (.iconst 1, 1) := by decide +kernel
theorem dX5_unsaidBy_16 : decode cX5_unsaidBy 16 = .ok (.istore_n 3, 1) := by decide +kernel
theorem dX5_unsaidBy_17 : decode cX5_unsaidBy 17 = .ok (.iconst 0, 1) := by decide +kernel
theorem dX5_unsaidBy_18 : decode cX5_unsaidBy 18 = .ok (.istore 4, 2) := by decide +kernel
theorem dX5_unsaidBy_20 : decode cX5_unsaidBy 20 = .ok (.iconst (-1), 1) := by decide +kernel
theorem dX5_unsaidBy_21 : decode cX5_unsaidBy 21 = .ok (.istore 5, 2) := by decide +kernel
theorem dX5_unsaidBy_23 : decode cX5_unsaidBy 23 = .ok (.aload_n 0, 1) := by decide +kernel
theorem dX5_unsaidBy_24 : decode cX5_unsaidBy 24 = .ok (.getfield 25, 3) := by decide +kernel
theorem dX5_unsaidBy_27 : decode cX5_unsaidBy 27 = .ok (.iconst 1, 1) := by decide +kernel
theorem dX5_unsaidBy_28 : decode cX5_unsaidBy 28 = .ok (.isub, 1) := by decide +kernel
theorem dX5_unsaidBy_29 : decode cX5_unsaidBy 29 = .ok (.istore 6, 2) := by decide +kernel
theorem dX5_unsaidBy_31 : decode cX5_unsaidBy 31 = .ok (.iload 6, 2) := by decide +kernel
theorem dX5_unsaidBy_33 : decode cX5_unsaidBy 33 = .ok (.ifCond .lt 66, 3) := by decide +kernel
theorem dX5_unsaidBy_36 : decode cX5_unsaidBy 36 = .ok (.iload_n 2, 1) := by decide +kernel
theorem dX5_unsaidBy_37 : decode cX5_unsaidBy 37 = .ok (.aload_n 0, 1) := by decide +kernel
theorem dX5_unsaidBy_38 : decode cX5_unsaidBy 38 = .ok (.getfield 22, 3) := by decide +kernel
theorem dX5_unsaidBy_41 : decode cX5_unsaidBy 41 = .ok (.iload 6, 2) := by decide +kernel
theorem dX5_unsaidBy_43 : decode cX5_unsaidBy 43 = .ok (.iaload, 1) := by decide +kernel
theorem dX5_unsaidBy_44 : decode cX5_unsaidBy 44 = .ok (.isub, 1) := by decide +kernel
theorem dX5_unsaidBy_45 : decode cX5_unsaidBy 45 = .ok (.aload_n 0, 1) := by decide +kernel
theorem dX5_unsaidBy_46 : decode cX5_unsaidBy 46 = .ok (.getfield 9, 3) := by decide +kernel
theorem dX5_unsaidBy_49 : decode cX5_unsaidBy 49 = .ok (.getfield 63, 3) := by decide +kernel
theorem dX5_unsaidBy_52 : decode cX5_unsaidBy 52 = .ok (.if_icmp .ge 47, 3) := by decide +kernel
theorem dX5_unsaidBy_55 : decode cX5_unsaidBy 55 = .ok (.aload_n 0, 1) := by decide +kernel
theorem dX5_unsaidBy_56 : decode cX5_unsaidBy 56 = .ok (.getfield 15, 3) := by decide +kernel
theorem dX5_unsaidBy_59 : decode cX5_unsaidBy 59 = .ok (.iload 6, 2) := by decide +kernel
theorem dX5_unsaidBy_61 : decode cX5_unsaidBy 61 = .ok (.iaload, 1) := by decide +kernel
theorem dX5_unsaidBy_62 : decode cX5_unsaidBy 62 = .ok (.iload_n 1, 1) := by decide +kernel
theorem dX5_unsaidBy_63 : decode cX5_unsaidBy 63 = .ok (.if_icmp .ne 30, 3) := by decide +kernel
theorem dX5_unsaidBy_66 : decode cX5_unsaidBy 66 = .ok (.iinc 4 1, 3) := by decide +kernel
theorem dX5_unsaidBy_69 : decode cX5_unsaidBy 69 = .ok (.iload 4, 2) := by decide +kernel
theorem dX5_unsaidBy_71 : decode cX5_unsaidBy 71 = .ok (.iconst 1, 1) := by decide +kernel
theorem dX5_unsaidBy_72 : decode cX5_unsaidBy 72 = .ok (.if_icmp .ne 8, 3) := by decide +kernel
theorem dX5_unsaidBy_75 : decode cX5_unsaidBy 75 = .ok (.iload 6, 2) := by decide +kernel
theorem dX5_unsaidBy_77 : decode cX5_unsaidBy 77 = .ok (.goto 5, 3) := by decide +kernel
theorem dX5_unsaidBy_80 : decode cX5_unsaidBy 80 = .ok (.iload 5, 2) := by decide +kernel
theorem dX5_unsaidBy_82 : decode cX5_unsaidBy 82 = .ok (.istore 5, 2) := by decide +kernel
theorem dX5_unsaidBy_84 : decode cX5_unsaidBy 84 = .ok (.iload 4, 2) := by decide +kernel
theorem dX5_unsaidBy_86 : decode cX5_unsaidBy 86 = .ok (.iload_n 3, 1) := by decide +kernel
theorem dX5_unsaidBy_87 : decode cX5_unsaidBy 87 = .ok (.if_icmp .ne 6, 3) := by decide +kernel
theorem dX5_unsaidBy_90 : decode cX5_unsaidBy 90 = .ok (.iload 5, 2) := by decide +kernel
theorem dX5_unsaidBy_92 : decode cX5_unsaidBy 92 = .ok (.ireturn, 1) := by decide +kernel
theorem dX5_unsaidBy_93 : decode cX5_unsaidBy 93 = .ok (.iinc 6 (-1), 3) := by decide +kernel
theorem dX5_unsaidBy_96 : decode cX5_unsaidBy 96 = .ok (.goto (-65), 3) := by decide +kernel
theorem dX5_unsaidBy_99 : decode cX5_unsaidBy 99 = .ok (.iconst (-1), 1) := by decide +kernel
theorem dX5_unsaidBy_100 : decode cX5_unsaidBy 100 = .ok (.ireturn, 1) := by decide +kernel
theorem dX5_takeOut_0 : decode cX5_takeOut 0 = .ok (.aload_n 0, 1) := by decide +kernel
theorem dX5_takeOut_1 : decode cX5_takeOut 1 = .ok (.getfield 9, 3) := by decide +kernel
theorem dX5_takeOut_4 : decode cX5_takeOut 4 = .ok (.getfield 58, 3) := by decide +kernel
theorem dX5_takeOut_7 : decode cX5_takeOut 7 = .ok (.iconst 1, 1) := by decide +kernel
theorem dX5_takeOut_8 : decode cX5_takeOut 8 = .ok (.if_icmp .ne 9, 3) := by decide +kernel
theorem dX5_takeOut_11 : decode cX5_takeOut 11 = .ok (.aload_n 0, 1) := by decide +kernel
theorem dX5_takeOut_12 : decode cX5_takeOut 12 = .ok (.iload_n 1, 1) := by decide +kernel
theorem dX5_takeOut_13 : decode cX5_takeOut 13 = .ok (.putfield 25, 3) := by decide +kernel
theorem dX5_takeOut_16 : decode cX5_takeOut 16 = .ok (.return_, 1) := by decide +kernel
theorem dX5_takeOut_17 : decode cX5_takeOut 17 = .ok (.iload_n 1, 1) := by decide +kernel
theorem dX5_takeOut_18 : decode cX5_takeOut 18 = .ok (.istore_n 2, 1) := by decide +kernel
theorem dX5_takeOut_19 : decode cX5_takeOut 19 = .ok (.iload_n 2, 1) := by decide +kernel
theorem dX5_takeOut_20 : decode cX5_takeOut 20 = .ok (.aload_n 0, 1) := by decide +kernel
theorem dX5_takeOut_21 : decode cX5_takeOut 21 = .ok (.getfield 25, 3) := by decide +kernel
theorem dX5_takeOut_24 : decode cX5_takeOut 24 = .ok (.iconst 1, 1) := by decide +kernel
theorem dX5_takeOut_25 : decode cX5_takeOut 25 = .ok (.isub, 1) := by decide +kernel
theorem dX5_takeOut_26 : decode cX5_takeOut 26 = .ok (.if_icmp .ge 51, 3) := by decide +kernel
theorem dX5_takeOut_29 : decode cX5_takeOut 29 = .ok (.aload_n 0, 1) := by decide +kernel
theorem dX5_takeOut_30 : decode cX5_takeOut 30 = .ok (.getfield 15, 3) := by decide +kernel
theorem dX5_takeOut_33 : decode cX5_takeOut 33 = .ok (.iload_n 2, 1) := by decide +kernel
theorem dX5_takeOut_34 : decode cX5_takeOut 34 = .ok (.aload_n 0, 1) := by decide +kernel
theorem dX5_takeOut_35 : decode cX5_takeOut 35 = .ok (.getfield 15, 3) := by decide +kernel
theorem dX5_takeOut_38 : decode cX5_takeOut 38 = .ok (.iload_n 2, 1) := by decide +kernel
theorem dX5_takeOut_39 : decode cX5_takeOut 39 = .ok (.iconst 1, 1) := by decide +kernel
theorem dX5_takeOut_40 : decode cX5_takeOut 40 = .ok (.iadd, 1) := by decide +kernel
theorem dX5_takeOut_41 : decode cX5_takeOut 41 = .ok (.iaload, 1) := by decide +kernel
theorem dX5_takeOut_42 : decode cX5_takeOut 42 = .ok (.iastore, 1) := by decide +kernel
theorem dX5_takeOut_43 : decode cX5_takeOut 43 = .ok (.aload_n 0, 1) := by decide +kernel
theorem dX5_takeOut_44 : decode cX5_takeOut 44 = .ok (.getfield 19, 3) := by decide +kernel
theorem dX5_takeOut_47 : decode cX5_takeOut 47 = .ok (.iload_n 2, 1) := by decide +kernel
theorem dX5_takeOut_48 : decode cX5_takeOut 48 = .ok (.aload_n 0, 1) := by decide +kernel
theorem dX5_takeOut_49 : decode cX5_takeOut 49 = .ok (.getfield 19, 3) := by decide +kernel
theorem dX5_takeOut_52 : decode cX5_takeOut 52 = .ok (.iload_n 2, 1) := by decide +kernel
theorem dX5_takeOut_53 : decode cX5_takeOut 53 = .ok (.iconst 1, 1) := by decide +kernel
theorem dX5_takeOut_54 : decode cX5_takeOut 54 = .ok (.iadd, 1) := by decide +kernel
theorem dX5_takeOut_55 : decode cX5_takeOut 55 = .ok (.iaload, 1) := by decide +kernel
theorem dX5_takeOut_56 : decode cX5_takeOut 56 = .ok (.iastore, 1) := by decide +kernel
theorem dX5_takeOut_57 : decode cX5_takeOut 57 = .ok (.aload_n 0, 1) := by decide +kernel
theorem dX5_takeOut_58 : decode cX5_takeOut 58 = .ok (.getfield 22, 3) := by decide +kernel
theorem dX5_takeOut_61 : decode cX5_takeOut 61 = .ok (.iload_n 2, 1) := by decide +kernel
theorem dX5_takeOut_62 : decode cX5_takeOut 62 = .ok (.aload_n 0, 1) := by decide +kernel
theorem dX5_takeOut_63 : decode cX5_takeOut 63 = .ok (.getfield 22, 3) := by decide +kernel
theorem dX5_takeOut_66 : decode cX5_takeOut 66 = .ok (.iload_n 2, 1) := by decide +kernel
theorem dX5_takeOut_67 : decode cX5_takeOut 67 = .ok (.iconst 1, 1) := by decide +kernel
theorem dX5_takeOut_68 : decode cX5_takeOut 68 = .ok (.iadd, 1) := by decide +kernel
theorem dX5_takeOut_69 : decode cX5_takeOut 69 = .ok (.iaload, 1) := by decide +kernel
theorem dX5_takeOut_70 : decode cX5_takeOut 70 = .ok (.iastore, 1) := by decide +kernel
theorem dX5_takeOut_71 : decode cX5_takeOut 71 = .ok (.iinc 2 1, 3) := by decide +kernel
theorem dX5_takeOut_74 : decode cX5_takeOut 74 = .ok (.goto (-55), 3) := by decide +kernel
theorem dX5_takeOut_77 : decode cX5_takeOut 77 = .ok (.aload_n 0, 1) := by decide +kernel
theorem dX5_takeOut_78 : decode cX5_takeOut 78 = .ok (.dup, 1) := by decide +kernel
theorem dX5_takeOut_79 : decode cX5_takeOut 79 = .ok (.getfield 25, 3) := by decide +kernel
theorem dX5_takeOut_82 : decode cX5_takeOut 82 = .ok (.iconst 1, 1) := by decide +kernel
theorem dX5_takeOut_83 : decode cX5_takeOut 83 = .ok (.isub, 1) := by decide +kernel
theorem dX5_takeOut_84 : decode cX5_takeOut 84 = .ok (.putfield 25, 3) := by decide +kernel
theorem dX5_takeOut_87 : decode cX5_takeOut 87 = .ok (.return_, 1) := by decide +kernel
theorem dX5_howManySaid_0 : decode cX5_howManySaid 0 = .ok (.iconst 0, 1) := by decide +kernel
theorem dX5_howManySaid_1 : decode cX5_howManySaid 1 = .ok (.istore_n 2, 1) := by decide +kernel
theorem dX5_howManySaid_2 : decode cX5_howManySaid 2 = .ok (.iload_n 2, 1) := by decide +kernel
theorem dX5_howManySaid_3 : decode cX5_howManySaid 3 = .ok (.aload_n 0, 1) := by decide +kernel
theorem dX5_howManySaid_4 : decode cX5_howManySaid 4 = .ok (.getfield 25, 3) := by decide +kernel
theorem dX5_howManySaid_7 : decode cX5_howManySaid 7 = .ok (.if_icmp .ge 27, 3) := by decide +kernel
theorem dX5_howManySaid_10 : decode cX5_howManySaid 10 = .ok (.iload_n 1, 1) := by decide +kernel
theorem dX5_howManySaid_11 : decode cX5_howManySaid 11 = .ok (.aload_n 0, 1) := by decide +kernel
theorem dX5_howManySaid_12 : decode cX5_howManySaid 12 = .ok (.getfield 22, 3) := by decide +kernel
theorem dX5_howManySaid_15 : decode cX5_howManySaid 15 = .ok (.iload_n 2, 1) := by decide +kernel
theorem dX5_howManySaid_16 : decode cX5_howManySaid 16 = .ok (.iaload, 1) := by decide +kernel
theorem dX5_howManySaid_17 : decode cX5_howManySaid 17 = .ok (.isub, 1) := by decide +kernel
theorem dX5_howManySaid_18 : decode cX5_howManySaid 18 = .ok (.aload_n 0, 1) := by decide +kernel
theorem dX5_howManySaid_19 : decode cX5_howManySaid 19 = .ok (.getfield 9, 3) := by decide +kernel
theorem dX5_howManySaid_22 : decode cX5_howManySaid 22 = .ok (.getfield 63, 3) := by decide +kernel
theorem dX5_howManySaid_25 : decode cX5_howManySaid 25 = .ok (.if_icmp .lt 9, 3) := by decide +kernel
theorem dX5_howManySaid_28 : decode cX5_howManySaid 28 = .ok (.iinc 2 1, 3) := by decide +kernel
theorem dX5_howManySaid_31 : decode cX5_howManySaid 31 = .ok (.goto (-29), 3) := by decide +kernel
theorem dX5_howManySaid_34 : decode cX5_howManySaid 34 = .ok (.iload_n 2, 1) := by decide +kernel
theorem dX5_howManySaid_35 : decode cX5_howManySaid 35 = .ok (.ireturn, 1) := by decide +kernel
theorem dX5_holdsMark_0 : decode cX5_holdsMark 0 = .ok (.iconst 0, 1) := by decide +kernel
theorem dX5_holdsMark_1 : decode cX5_holdsMark 1 = .ok (.istore_n 2, 1) := by decide +kernel
theorem dX5_holdsMark_2 : decode cX5_holdsMark 2 = .ok (.iload_n 2, 1) := by decide +kernel
theorem dX5_holdsMark_3 : decode cX5_holdsMark 3 = .ok (.aload_n 0, 1) := by decide +kernel
theorem dX5_holdsMark_4 : decode cX5_holdsMark 4 = .ok (.getfield 25, 3) := by decide +kernel
theorem dX5_holdsMark_7 : decode cX5_holdsMark 7 = .ok (.if_icmp .ge 21, 3) := by decide +kernel
theorem dX5_holdsMark_10 : decode cX5_holdsMark 10 = .ok (.aload_n 0, 1) := by decide +kernel
theorem dX5_holdsMark_11 : decode cX5_holdsMark 11 = .ok (.getfield 19, 3) := by decide +kernel
theorem dX5_holdsMark_14 : decode cX5_holdsMark 14 = .ok (.iload_n 2, 1) := by decide +kernel
theorem dX5_holdsMark_15 : decode cX5_holdsMark 15 = .ok (.iaload, 1) := by decide +kernel
theorem dX5_holdsMark_16 : decode cX5_holdsMark 16 = .ok (.iload_n 1, 1) := by decide +kernel
theorem dX5_holdsMark_17 : decode cX5_holdsMark 17 = .ok (.if_icmp .ne 5, 3) := by decide +kernel
theorem dX5_holdsMark_20 : decode cX5_holdsMark 20 = .ok (.iconst 1, 1) := by decide +kernel
theorem dX5_holdsMark_21 : decode cX5_holdsMark 21 = .ok (.ireturn, 1) := by decide +kernel
theorem dX5_holdsMark_22 : decode cX5_holdsMark 22 = .ok (.iinc 2 1, 3) := by decide +kernel
theorem dX5_holdsMark_25 : decode cX5_holdsMark 25 = .ok (.goto (-23), 3) := by decide +kernel
theorem dX5_holdsMark_28 : decode cX5_holdsMark 28 = .ok (.iconst 0, 1) := by decide +kernel
theorem dX5_holdsMark_29 : decode cX5_holdsMark 29 = .ok (.ireturn, 1) := by decide +kernel
theorem dX5_holdsSort_0 : decode cX5_holdsSort 0 = .ok (.iconst 0, 1) := by decide +kernel
theorem dX5_holdsSort_1 : decode cX5_holdsSort 1 = .ok (.istore_n 2, 1) := by decide +kernel
theorem dX5_holdsSort_2 : decode cX5_holdsSort 2 = .ok (.iload_n 2, 1) := by decide +kernel
theorem dX5_holdsSort_3 : decode cX5_holdsSort 3 = .ok (.aload_n 0, 1) := by decide +kernel
theorem dX5_holdsSort_4 : decode cX5_holdsSort 4 = .ok (.getfield 25, 3) := by decide +kernel
theorem dX5_holdsSort_7 : decode cX5_holdsSort 7 = .ok (.if_icmp .ge 21, 3) := by decide +kernel
theorem dX5_holdsSort_10 : decode cX5_holdsSort 10 = .ok (.aload_n 0, 1) := by decide +kernel
theorem dX5_holdsSort_11 : decode cX5_holdsSort 11 = .ok (.getfield 15, 3) := by decide +kernel
theorem dX5_holdsSort_14 : decode cX5_holdsSort 14 = .ok (.iload_n 2, 1) := by decide +kernel
theorem dX5_holdsSort_15 : decode cX5_holdsSort 15 = .ok (.iaload, 1) := by decide +kernel
theorem dX5_holdsSort_16 : decode cX5_holdsSort 16 = .ok (.iload_n 1, 1) := by decide +kernel
theorem dX5_holdsSort_17 : decode cX5_holdsSort 17 = .ok (.if_icmp .ne 5, 3) := by decide +kernel
theorem dX5_holdsSort_20 : decode cX5_holdsSort 20 = .ok (.iconst 1, 1) := by decide +kernel
theorem dX5_holdsSort_21 : decode cX5_holdsSort 21 = .ok (.ireturn, 1) := by decide +kernel
theorem dX5_holdsSort_22 : decode cX5_holdsSort 22 = .ok (.iinc 2 1, 3) := by decide +kernel
theorem dX5_holdsSort_25 : decode cX5_holdsSort 25 = .ok (.goto (-23), 3) := by decide +kernel
theorem dX5_holdsSort_28 : decode cX5_holdsSort 28 = .ok (.iconst 0, 1) := by decide +kernel
theorem dX5_holdsSort_29 : decode cX5_holdsSort 29 = .ok (.ireturn, 1) := by decide +kernel
theorem dX5_holdsAt_0 : decode cX5_holdsAt 0 = .ok (.iload_n 2, 1) := by decide +kernel
theorem dX5_holdsAt_1 : decode cX5_holdsAt 1 = .ok (.ifCond .lt 21, 3) := by decide +kernel
theorem dX5_holdsAt_4 : decode cX5_holdsAt 4 = .ok (.iload_n 3, 1) := by decide +kernel
theorem dX5_holdsAt_5 : decode cX5_holdsAt 5 = .ok (.aload_n 0, 1) := by decide +kernel
theorem dX5_holdsAt_6 : decode cX5_holdsAt 6 = .ok (.getfield 25, 3) := by decide +kernel
theorem dX5_holdsAt_9 : decode cX5_holdsAt 9 = .ok (.if_icmp .gt 13, 3) := by decide +kernel
theorem dX5_holdsAt_12 : decode cX5_holdsAt 12 = .ok (.iload_n 2, 1) := by decide +kernel
theorem dX5_holdsAt_13 : decode cX5_holdsAt 13 = .ok (.aload_n 1, 1) := by decide +kernel
theorem dX5_holdsAt_14 : decode cX5_holdsAt 14 = .ok (.getfield 66, 3) := by decide +kernel
theorem dX5_holdsAt_17 : decode cX5_holdsAt 17 = .ok (.iadd, 1) := by decide +kernel
theorem dX5_holdsAt_18 : decode cX5_holdsAt 18 = .ok (.iload_n 3, 1) := by decide +kernel
theorem dX5_holdsAt_19 : decode cX5_holdsAt 19 = .ok (.if_icmp .le 5, 3) := by decide +kernel
theorem dX5_holdsAt_22 : decode cX5_holdsAt 22 = .ok (.iconst 0, 1) := by decide +kernel
theorem dX5_holdsAt_23 : decode cX5_holdsAt 23 = .ok (.ireturn, 1) := by decide +kernel
theorem dX5_holdsAt_24 : decode cX5_holdsAt 24 = .ok (.iconst 0, 1) := by decide +kernel
theorem dX5_holdsAt_25 : decode cX5_holdsAt 25 = .ok (.istore 4, 2) := by decide +kernel
theorem dX5_holdsAt_27 : decode cX5_holdsAt 27 = .ok (.iload 4, 2) := by decide +kernel
theorem dX5_holdsAt_29 : decode cX5_holdsAt 29 = .ok (.aload_n 1, 1) := by decide +kernel
theorem dX5_holdsAt_30 : decode cX5_holdsAt 30 = .ok (.getfield 66, 3) := by decide +kernel
theorem dX5_holdsAt_33 : decode cX5_holdsAt 33 = .ok (.if_icmp .ge 30, 3) := by decide +kernel
theorem dX5_holdsAt_36 : decode cX5_holdsAt 36 = .ok (.aload_n 0, 1) := by decide +kernel
theorem dX5_holdsAt_37 : decode cX5_holdsAt 37 = .ok (.getfield 15, 3) := by decide +kernel
theorem dX5_holdsAt_40 : decode cX5_holdsAt 40 = .ok (.iload_n 2, 1) := by decide +kernel
theorem dX5_holdsAt_41 : decode cX5_holdsAt 41 = .ok (.iload 4, 2) := by decide +kernel
theorem dX5_holdsAt_43 : decode cX5_holdsAt 43 = .ok (.iadd, 1) := by decide +kernel
theorem dX5_holdsAt_44 : decode cX5_holdsAt 44 = .ok (.iaload, 1) := by decide +kernel
theorem dX5_holdsAt_45 : decode cX5_holdsAt 45 = .ok (.aload_n 1, 1) := by decide +kernel
theorem dX5_holdsAt_46 : decode cX5_holdsAt 46 = .ok (.getfield 69, 3) := by decide +kernel
theorem dX5_holdsAt_49 : decode cX5_holdsAt 49 = .ok (.iload 4, 2) := by decide +kernel
