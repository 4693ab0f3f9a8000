theorem dX6_lowered_19 : decode cX6_lowered 19 = .ok (.lload 5, 2) := by decide +kernel
theorem dX6_lowered_21 : decode cX6_lowered 21 = .ok (.lconst 1, 1) := by decide +kernel
theorem dX6_lowered_22 : decode cX6_lowered 22 = .ok (.lsub, 1) := by decide +kernel
theorem dX6_lowered_23 : decode cX6_lowered 23 = .ok (.goto 5, 3) := by decide +kernel
theorem dX6_lowered_26 : decode cX6_lowered 26 = .ok (.lload 5, 2) := by decide +kernel
theorem dX6_lowered_28 : decode cX6_lowered 28 = .ok (.lreturn, 1) := by decide +kernel
set_option maxRecDepth 20000 in
theorem ggX6_findsTwo_X6_doingOf : GoodIn wsX6_findsTwo wsX6_doingOf := goodIn_r _ [11, 1, 12, 13, 14, 15, 16, 17, 18, 19, 20, 21, 22, 23, 10, 24, 25, 26, 27, 28, 29, 30, 31, 32, 33, 34, 35, 36, 37, 38, 39, 40, 41, 42, 43, 44, 45, 46, 47, 48, 49, 50, 51, 52, 53, 54, 55, 56, 83, 84, 85, 86, 87, 88, 89, 90, 91, 92, 93, 94, 95, 96, 97, 98, 99, 100, 101, 102, 103, 104, 105, 106, 107, 108, 109, 110, 111, 112, 113, 114, 115, 116, 117, 118, 119, 120, 121, 122, 123, 124, 125, 126, 127, 128, 129, 130, 131, 132, 133, 134, 135, 136, 137] (by decide +kernel) (by decide +kernel)
set_option maxRecDepth 20000 in
theorem gX6_findsTwo_X6_doingOf : GoodIn wsX6_findsTwo (wsV RX6 266 RX6 yX6_doingOf wsX6_doingOf) := goodIn_app (goodIn_of _ (by decide +kernel)) ggX6_findsTwo_X6_doingOf
set_option maxRecDepth 20000 in
theorem ggX6_findsTwo_X6_canMove : GoodIn wsX6_findsTwo wsX6_canMove := goodIn_r _ [60, 18, 13, 1, 26, 27, 28, 10, 29, 25, 83, 84, 85, 86, 87, 88, 89, 90, 91, 92, 93, 94, 95, 96, 97, 98, 99, 100, 101, 102, 103, 104, 105, 106, 107, 108, 109, 110, 111, 112, 113, 114, 115, 116, 117, 118, 119, 120, 121, 122, 123, 124, 125, 126, 127, 128, 129, 130, 131, 132, 133, 134, 135, 136, 137] (by decide +kernel) (by decide +kernel)
set_option maxRecDepth 20000 in
theorem gX6_findsTwo_X6_canMove : GoodIn wsX6_findsTwo (wsV RX6 277 RX6 yX6_canMove wsX6_canMove) := goodIn_app (goodIn_of _ (by decide +kernel)) ggX6_findsTwo_X6_canMove
set_option maxRecDepth 20000 in
theorem ggX6_findsTwo_X6_chanceOf : GoodIn wsX6_findsTwo wsX6_chanceOf := goodIn_r _ [64, 13, 16, 65, 83, 84, 85, 86, 87, 88, 89, 90, 91, 92, 93, 94, 95, 96, 97, 98, 99, 100, 101, 102, 103, 104, 105, 106, 107, 108, 109, 110, 111, 112, 113, 114, 115, 116, 117, 118, 119, 120, 121, 122, 123, 124, 125, 126, 127, 128, 129, 130, 131, 132, 133, 134, 135, 136, 137] (by decide +kernel) (by decide +kernel)
set_option maxRecDepth 20000 in
theorem gX6_findsTwo_X6_chanceOf : GoodIn wsX6_findsTwo (wsV RX6 280 RX6 yX6_chanceOf wsX6_chanceOf) := goodIn_app (goodIn_of _ (by decide +kernel)) ggX6_findsTwo_X6_chanceOf
set_option maxRecDepth 20000 in
theorem ggX6_findsTwo_X6_valueOf : GoodIn wsX6_findsTwo wsX6_valueOf := goodIn_r _ [69, 16, 13, 2, 1, 21, 22, 23, 10, 24, 25, 26, 27, 28, 29, 57, 58, 59, 60, 18, 61, 62, 63, 64, 65, 34, 35, 36, 37, 30, 31, 32, 33, 70, 71, 72, 73, 83, 84, 85, 86, 87, 88, 89, 90, 91, 92, 93, 94, 95, 96, 97, 98, 99, 100, 101, 102, 103, 104, 105, 106, 107, 108, 109, 110, 111, 112, 113, 114, 115, 116, 117, 118, 119, 120, 121, 122, 123, 124, 125, 126, 127, 128, 129, 130, 131, 132, 133, 134, 135, 136, 137] (by decide +kernel) (by decide +kernel)
set_option maxRecDepth 20000 in
theorem gX6_findsTwo_X6_valueOf : GoodIn wsX6_findsTwo (wsV RX6 292 RX6 yX6_valueOf wsX6_valueOf) := goodIn_app (goodIn_of _ (by decide +kernel)) ggX6_findsTwo_X6_valueOf
set_option maxRecDepth 20000 in
theorem ggX6_findsTwo_X6_nextOf : GoodIn wsX6_findsTwo wsX6_nextOf := goodIn_r _ [77, 13, 6, 78, 34, 35, 36, 10, 37, 83, 84, 85, 86, 87, 88, 89, 90, 91, 92, 93, 94, 95, 96, 97, 98, 99, 100, 101, 102, 103, 104, 105, 106, 107, 108, 109, 110, 111, 112, 113, 114, 115, 116, 117, 118, 119, 120, 121, 122, 123, 124, 125, 126, 127, 128, 129, 130, 131, 132, 133, 134, 135, 136, 137] (by decide +kernel) (by decide +kernel)
set_option maxRecDepth 20000 in
theorem gX6_findsTwo_X6_nextOf : GoodIn wsX6_findsTwo (wsV RX6 325 RX6 yX6_nextOf wsX6_nextOf) := goodIn_app (goodIn_of _ (by decide +kernel)) ggX6_findsTwo_X6_nextOf
set_option maxRecDepth 20000 in
theorem ggX6_findsTwo_X6_lowered : GoodIn wsX6_findsTwo wsX6_lowered := goodIn_r _ [82] (by decide +kernel) (by decide +kernel)
set_option maxRecDepth 20000 in
theorem gX6_findsTwo_X6_lowered : GoodIn wsX6_findsTwo (wsV RX6 329 RX6 yX6_lowered wsX6_lowered) := goodIn_app (goodIn_of _ (by decide +kernel)) ggX6_findsTwo_X6_lowered
theorem dX6_findsTwo_0 : decode cX6_findsTwo 0 = .ok (.iconst 0, 1) := by decide +kernel
theorem dX6_findsTwo_1 : decode cX6_findsTwo 1 = .ok (.istore_n 3, 1) := by decide +kernel
theorem dX6_findsTwo_2 : decode cX6_findsTwo 2 = .ok (.iload_n 3, 1) := by decide +kernel
theorem dX6_findsTwo_3 : decode cX6_findsTwo 3 = .ok (.iload_n 2, 1) := by decide +kernel
theorem dX6_findsTwo_4 : decode cX6_findsTwo 4 = .ok (.if_icmp .gt 198, 3) := by decide +kernel
theorem dX6_findsTwo_7 : decode cX6_findsTwo 7 = .ok (.aload_n 0, 1) := by decide +kernel
theorem dX6_findsTwo_8 : decode cX6_findsTwo 8 = .ok (.getfield 13, 3) := by decide +kernel
theorem dX6_findsTwo_11 : decode cX6_findsTwo 11 = .ok (.iconst 0, 1) := by decide +kernel
theorem dX6_findsTwo_12 : decode cX6_findsTwo 12 = .ok (.iload_n 3, 1) := by decide +kernel
theorem dX6_findsTwo_13 : decode cX6_findsTwo 13 = .ok (.iastore, 1) := by decide +kernel
theorem dX6_findsTwo_14 : decode cX6_findsTwo 14 = .ok (.aload_n 0, 1) := by decide +kernel
theorem dX6_findsTwo_15 : decode cX6_findsTwo 15 = .ok (.getfield 13, 3) := by decide +kernel
theorem dX6_findsTwo_18 : decode cX6_findsTwo 18 = .ok (.iconst 1, 1) := by decide +kernel
theorem dX6_findsTwo_19 : decode cX6_findsTwo 19 = .ok (.iload_n 2, 1) := by decide +kernel
theorem dX6_findsTwo_20 : decode cX6_findsTwo 20 = .ok (.iload_n 3, 1) := by decide +kernel
theorem dX6_findsTwo_21 : decode cX6_findsTwo 21 = .ok (.isub, 1) := by decide +kernel
theorem dX6_findsTwo_22 : decode cX6_findsTwo 22 = .ok (.iastore, 1) := by decide +kernel
theorem dX6_findsTwo_23 : decode cX6_findsTwo 23 = .ok (.aload_n 0, 1) := by decide +kernel
theorem dX6_findsTwo_24 : decode cX6_findsTwo 24 = .ok (.iconst 1, 1) := by decide +kernel
theorem dX6_findsTwo_25 : decode cX6_findsTwo 25 = .ok (.invokevirtual 266, 3) := by decide +kernel
theorem dX6_findsTwo_28 : decode cX6_findsTwo 28 = .ok (.istore 4, 2) := by decide +kernel
theorem dX6_findsTwo_30 : decode cX6_findsTwo 30 = .ok (.iconst 0, 1) := by decide +kernel
theorem dX6_findsTwo_31 : decode cX6_findsTwo 31 = .ok (.istore 5, 2) := by decide +kernel
theorem dX6_findsTwo_33 : decode cX6_findsTwo 33 = .ok (.iload 5, 2) := by decide +kernel
theorem dX6_findsTwo_35 : decode cX6_findsTwo 35 = .ok (.iconst 4, 1) := by decide +kernel
theorem dX6_findsTwo_36 : decode cX6_findsTwo 36 = .ok (.if_icmp .ge 160, 3) := by decide +kernel
theorem dX6_findsTwo_39 : decode cX6_findsTwo 39 = .ok (.iload 5, 2) := by decide +kernel
theorem dX6_findsTwo_41 : decode cX6_findsTwo 41 = .ok (.iconst 2, 1) := by decide +kernel
theorem dX6_findsTwo_42 : decode cX6_findsTwo 42 = .ok (.if_icmp .ne 6, 3) := by decide +kernel
theorem dX6_findsTwo_45 : decode cX6_findsTwo 45 = .ok (.goto 145, 3) := by decide +kernel
theorem dX6_findsTwo_48 : decode cX6_findsTwo 48 = .ok (.aload_n 0, 1) := by decide +kernel
theorem dX6_findsTwo_49 : decode cX6_findsTwo 49 = .ok (.getfield 99, 3) := by decide +kernel
theorem dX6_findsTwo_52 : decode cX6_findsTwo 52 = .ok (.iconst 0, 1) := by decide +kernel
theorem dX6_findsTwo_53 : decode cX6_findsTwo 53 = .ok (.iload 5, 2) := by decide +kernel
theorem dX6_findsTwo_55 : decode cX6_findsTwo 55 = .ok (.iastore, 1) := by decide +kernel
theorem dX6_findsTwo_56 : decode cX6_findsTwo 56 = .ok (.aload_n 0, 1) := by decide +kernel
theorem dX6_findsTwo_57 : decode cX6_findsTwo 57 = .ok (.getfield 99, 3) := by decide +kernel
theorem dX6_findsTwo_60 : decode cX6_findsTwo 60 = .ok (.iconst 1, 1) := by decide +kernel
theorem dX6_findsTwo_61 : decode cX6_findsTwo 61 = .ok (.iload 4, 2) := by decide +kernel
theorem dX6_findsTwo_63 : decode cX6_findsTwo 63 = .ok (.iastore, 1) := by decide +kernel
theorem dX6_findsTwo_64 : decode cX6_findsTwo 64 = .ok (.aload_n 0, 1) := by decide +kernel
theorem dX6_findsTwo_65 : decode cX6_findsTwo 65 = .ok (.iconst 0, 1) := by decide +kernel
theorem dX6_findsTwo_66 : decode cX6_findsTwo 66 = .ok (.invokevirtual 277, 3) := by decide +kernel
theorem dX6_findsTwo_69 : decode cX6_findsTwo 69 = .ok (.istore 6, 2) := by decide +kernel
theorem dX6_findsTwo_71 : decode cX6_findsTwo 71 = .ok (.iload 5, 2) := by decide +kernel
theorem dX6_findsTwo_73 : decode cX6_findsTwo 73 = .ok (.iconst 3, 1) := by decide +kernel
theorem dX6_findsTwo_74 : decode cX6_findsTwo 74 = .ok (.if_icmp .ne 19, 3) := by decide +kernel
theorem dX6_findsTwo_77 : decode cX6_findsTwo 77 = .ok (.iload 6, 2) := by decide +kernel
theorem dX6_findsTwo_79 : decode cX6_findsTwo 79 = .ok (.ifCond .eq 14, 3) := by decide +kernel
theorem dX6_findsTwo_82 : decode cX6_findsTwo 82 = .ok (.aload_n 0, 1) := by decide +kernel
theorem dX6_findsTwo_83 : decode cX6_findsTwo 83 = .ok (.iconst 0, 1) := by decide +kernel
theorem dX6_findsTwo_84 : decode cX6_findsTwo 84 = .ok (.iconst 1, 1) := by decide +kernel
theorem dX6_findsTwo_85 : decode cX6_findsTwo 85 = .ok (.iload 4, 2) := by decide +kernel
theorem dX6_findsTwo_87 : decode cX6_findsTwo 87 = .ok (.invokevirtual 280, 3) := by decide +kernel
theorem dX6_findsTwo_90 : decode cX6_findsTwo 90 = .ok (.goto 4, 3) := by decide +kernel
theorem dX6_findsTwo_93 : decode cX6_findsTwo 93 = .ok (.iconst 0, 1) := by decide +kernel
theorem dX6_findsTwo_94 : decode cX6_findsTwo 94 = .ok (.istore 7, 2) := by decide +kernel
theorem dX6_findsTwo_96 : decode cX6_findsTwo 96 = .ok (.iload 4, 2) := by decide +kernel
theorem dX6_findsTwo_98 : decode cX6_findsTwo 98 = .ok (.iconst 2, 1) := by decide +kernel
theorem dX6_findsTwo_99 : decode cX6_findsTwo 99 = .ok (.if_icmp .ne 19, 3) := by decide +kernel
theorem dX6_findsTwo_102 : decode cX6_findsTwo 102 = .ok (.iload 6, 2) := by decide +kernel
theorem dX6_findsTwo_104 : decode cX6_findsTwo 104 = .ok (.ifCond .eq 14, 3) := by decide +kernel
theorem dX6_findsTwo_107 : decode cX6_findsTwo 107 = .ok (.aload_n 0, 1) := by decide +kernel
theorem dX6_findsTwo_108 : decode cX6_findsTwo 108 = .ok (.iconst 0, 1) := by decide +kernel
theorem dX6_findsTwo_109 : decode cX6_findsTwo 109 = .ok (.iconst 0, 1) := by decide +kernel
theorem dX6_findsTwo_110 : decode cX6_findsTwo 110 = .ok (.iload 5, 2) := by decide +kernel
theorem dX6_findsTwo_112 : decode cX6_findsTwo 112 = .ok (.invokevirtual 280, 3) := by decide +kernel
theorem dX6_findsTwo_115 : decode cX6_findsTwo 115 = .ok (.goto 4, 3) := by decide +kernel
theorem dX6_findsTwo_118 : decode cX6_findsTwo 118 = .ok (.iconst 0, 1) := by decide +kernel
theorem dX6_findsTwo_119 : decode cX6_findsTwo 119 = .ok (.istore 8, 2) := by decide +kernel
theorem dX6_findsTwo_121 : decode cX6_findsTwo 121 = .ok (.ldc2_w 323, 3) := by decide +kernel
theorem dX6_findsTwo_124 : decode cX6_findsTwo 124 = .ok (.aload_n 0, 1) := by decide +kernel
theorem dX6_findsTwo_125 : decode cX6_findsTwo 125 = .ok (.iconst 0, 1) := by decide +kernel
theorem dX6_findsTwo_126 : decode cX6_findsTwo 126 = .ok (.invokevirtual 292, 3) := by decide +kernel
theorem dX6_findsTwo_129 : decode cX6_findsTwo 129 = .ok (.i2l, 1) := by decide +kernel
theorem dX6_findsTwo_130 : decode cX6_findsTwo 130 = .ok (.lmul, 1) := by decide +kernel
theorem dX6_findsTwo_131 : decode cX6_findsTwo 131 = .ok (.aload_n 0, 1) := by decide +kernel
theorem dX6_findsTwo_132 : decode cX6_findsTwo 132 = .ok (.iload_n 1, 1) := by decide +kernel
theorem dX6_findsTwo_133 : decode cX6_findsTwo 133 = .ok (.i2l, 1) := by decide +kernel
theorem dX6_findsTwo_134 : decode cX6_findsTwo 134 = .ok (.aload_n 0, 1) := by decide +kernel
theorem dX6_findsTwo_135 : decode cX6_findsTwo 135 = .ok (.iload_n 3, 1) := by decide +kernel
theorem dX6_findsTwo_136 : decode cX6_findsTwo 136 = .ok (.iload_n 2, 1) := by decide +kernel
theorem dX6_findsTwo_137 : decode cX6_findsTwo 137 = .ok (.iload 7, 2) := by decide +kernel
theorem dX6_findsTwo_139 : decode cX6_findsTwo 139 = .ok (.iload 8, 2) := by decide +kernel
theorem dX6_findsTwo_141 : decode cX6_findsTwo 141 = .ok (.invokevirtual 325, 3) := by decide +kernel
theorem dX6_findsTwo_144 : decode cX6_findsTwo 144 = .ok (.lmul, 1) := by decide +kernel
theorem dX6_findsTwo_145 : decode cX6_findsTwo 145 = .ok (.ldc2_w 323, 3) := by decide +kernel
theorem dX6_findsTwo_148 : decode cX6_findsTwo 148 = .ok (.invokevirtual 329, 3) := by decide +kernel
theorem dX6_findsTwo_151 : decode cX6_findsTwo 151 = .ok (.ladd, 1) := by decide +kernel
theorem dX6_findsTwo_152 : decode cX6_findsTwo 152 = .ok (.lstore 9, 2) := by decide +kernel
theorem dX6_findsTwo_154 : decode cX6_findsTwo 154 = .ok (.iload 5, 2) := by decide +kernel
theorem dX6_findsTwo_156 : decode cX6_findsTwo 156 = .ok (.ifCond .le 18, 3) := by decide +kernel
theorem dX6_findsTwo_159 : decode cX6_findsTwo 159 = .ok (.lload 9, 2) := by decide +kernel
theorem dX6_findsTwo_161 : decode cX6_findsTwo 161 = .ok (.aload_n 0, 1) := by decide +kernel
theorem dX6_findsTwo_162 : decode cX6_findsTwo 162 = .ok (.getfield 106, 3) := by decide +kernel
theorem dX6_findsTwo_165 : decode cX6_findsTwo 165 = .ok (.iload_n 3, 1) := by decide +kernel
theorem dX6_findsTwo_166 : decode cX6_findsTwo 166 = .ok (.laload, 1) := by decide +kernel
theorem dX6_findsTwo_167 : decode cX6_findsTwo 167 = .ok (.lcmp, 1) := by decide +kernel
theorem dX6_findsTwo_168 : decode cX6_findsTwo 168 = .ok (.ifCond .gt 6, 3) := by decide +kernel
theorem dX6_findsTwo_171 : decode cX6_findsTwo 171 = .ok (.goto 19, 3) := by decide +kernel
theorem dX6_findsTwo_174 : decode cX6_findsTwo 174 = .ok (.aload_n 0, 1) := by decide +kernel
theorem dX6_findsTwo_175 : decode cX6_findsTwo 175 = .ok (.getfield 106, 3) := by decide +kernel
theorem dX6_findsTwo_178 : decode cX6_findsTwo 178 = .ok (.iload_n 3, 1) := by decide +kernel
theorem dX6_findsTwo_179 : decode cX6_findsTwo 179 = .ok (.lload 9, 2) := by decide +kernel
theorem dX6_findsTwo_181 : decode cX6_findsTwo 181 = .ok (.lastore, 1) := by decide +kernel
theorem dX6_findsTwo_182 : decode cX6_findsTwo 182 = .ok (.aload_n 0, 1) := by decide +kernel
theorem dX6_findsTwo_183 : decode cX6_findsTwo 183 = .ok (.getfield 109, 3) := by decide +kernel
theorem dX6_findsTwo_186 : decode cX6_findsTwo 186 = .ok (.iload_n 3, 1) := by decide +kernel
theorem dX6_findsTwo_187 : decode cX6_findsTwo 187 = .ok (.iload 5, 2) := by decide +kernel
theorem dX6_findsTwo_189 : decode cX6_findsTwo 189 = .ok (.iastore, 1) := by decide +kernel
theorem dX6_findsTwo_190 : decode cX6_findsTwo 190 = .ok (.iinc 5 1, 3) := by decide +kernel
theorem dX6_findsTwo_193 : decode cX6_findsTwo 193 = .ok (.goto (-160), 3) := by decide +kernel
theorem dX6_findsTwo_196 : decode cX6_findsTwo 196 = .ok (.iinc 3 1, 3) := by decide +kernel
theorem dX6_findsTwo_199 : decode cX6_findsTwo 199 = .ok (.goto (-197), 3) := by decide +kernel
theorem dX6_findsTwo_202 : decode cX6_findsTwo 202 = .ok (.iconst 0, 1) := by decide +kernel
theorem dX6_findsTwo_203 : decode cX6_findsTwo 203 = .ok (.istore_n 3, 1) := by decide +kernel
theorem dX6_findsTwo_204 : decode cX6_findsTwo 204 = .ok (.iload_n 3, 1) := by decide +kernel
theorem dX6_findsTwo_205 : decode cX6_findsTwo 205 = .ok (.iload_n 2, 1) := by decide +kernel
theorem dX6_findsTwo_206 : decode cX6_findsTwo 206 = .ok (.if_icmp .gt 21, 3) := by decide +kernel
theorem dX6_findsTwo_209 : decode cX6_findsTwo 209 = .ok (.aload_n 0, 1) := by decide +kernel
theorem dX6_findsTwo_210 : decode cX6_findsTwo 210 = .ok (.getfield 102, 3) := by decide +kernel
theorem dX6_findsTwo_213 : decode cX6_findsTwo 213 = .ok (.iload_n 3, 1) := by decide +kernel
theorem dX6_findsTwo_214 : decode cX6_findsTwo 214 = .ok (.aload_n 0, 1) := by decide +kernel
theorem dX6_findsTwo_215 : decode cX6_findsTwo 215 = .ok (.getfield 106, 3) := by decide +kernel
theorem dX6_findsTwo_218 : decode cX6_findsTwo 218 = .ok (.iload_n 3, 1) := by decide +kernel
theorem dX6_findsTwo_219 : decode cX6_findsTwo 219 = .ok (.laload, 1) := by decide +kernel
theorem dX6_findsTwo_220 : decode cX6_findsTwo 220 = .ok (.lastore, 1) := by decide +kernel
theorem dX6_findsTwo_221 : decode cX6_findsTwo 221 = .ok (.iinc 3 1, 3) := by decide +kernel
theorem dX6_findsTwo_224 : decode cX6_findsTwo 224 = .ok (.goto (-20), 3) := by decide +kernel
theorem dX6_findsTwo_227 : decode cX6_findsTwo 227 = .ok (.return_, 1) := by decide +kernel
set_option maxRecDepth 20000 in
theorem ggX6_two_X6_isIn : GoodIn wsX6_two wsX6_isIn := goodIn_r _ [12] (by decide +kernel) (by decide +kernel)
set_option maxRecDepth 20000 in
theorem gX6_two_X6_isIn : GoodIn wsX6_two (wsV RX6 129 RX6 yX6_isIn wsX6_isIn) := goodIn_app (goodIn_of _ (by decide +kernel)) ggX6_two_X6_isIn
set_option maxRecDepth 20000 in
theorem ggX6_two_X6_findsTwo : GoodIn wsX6_two wsX6_findsTwo := goodIn_r _ [16, 2, 17, 18, 19, 7, 6, 20, 21, 22, 11, 23, 24, 25, 26, 27, 28, 29, 5, 30, 31, 32, 33, 34, 35, 3, 36, 37, 38, 39, 40, 41, 42, 43, 44, 45, 46, 47, 48, 49, 50, 51, 52, 53, 54, 55, 56, 57, 58, 59, 60, 61, 62, 63, 64, 65, 66, 67, 68, 69, 70, 71, 72, 73, 74, 75, 76, 77, 78, 79, 80, 81, 82, 83, 84, 85, 86, 87, 88, 89, 90, 91, 92, 93, 94, 95, 96, 97, 98, 99, 100, 101, 102, 103, 104, 105, 106, 107, 108, 109, 110, 111, 112, 113, 114, 115, 116, 117, 118, 119, 120, 121, 122, 123, 124, 125, 126, 127, 128, 129, 130, 131, 132, 133, 134, 135, 136, 137, 138, 139, 140, 141, 142, 143, 144, 145, 146, 147] (by decide +kernel) (by decide +kernel)
set_option maxRecDepth 20000 in
theorem gX6_two_X6_findsTwo : GoodIn wsX6_two (wsV RX6 335 RX6 yX6_findsTwo wsX6_findsTwo) := goodIn_app (goodIn_of _ (by decide +kernel)) ggX6_two_X6_findsTwo
theorem dX6_two_0 : decode cX6_two 0 = .ok (.aload_n 0, 1) := by decide +kernel
theorem dX6_two_1 : decode cX6_two 1 = .ok (.iconst 0, 1) := by decide +kernel
theorem dX6_two_2 : decode cX6_two 2 = .ok (.putfield 121, 3) := by decide +kernel
theorem dX6_two_5 : decode cX6_two 5 = .ok (.aload_n 0, 1) := by decide +kernel
theorem dX6_two_6 : decode cX6_two 6 = .ok (.getfield 13, 3) := by decide +kernel
theorem dX6_two_9 : decode cX6_two 9 = .ok (.iconst 0, 1) := by decide +kernel
theorem dX6_two_10 : decode cX6_two 10 = .ok (.iaload, 1) := by decide +kernel
theorem dX6_two_11 : decode cX6_two 11 = .ok (.aload_n 0, 1) := by decide +kernel
theorem dX6_two_12 : decode cX6_two 12 = .ok (.getfield 13, 3) := by decide +kernel
theorem dX6_two_15 : decode cX6_two 15 = .ok (.iconst 1, 1) := by decide +kernel
theorem dX6_two_16 : decode cX6_two 16 = .ok (.iaload, 1) := by decide +kernel
theorem dX6_two_17 : decode cX6_two 17 = .ok (.iadd, 1) := by decide +kernel
theorem dX6_two_18 : decode cX6_two 18 = .ok (.istore 5, 2) := by decide +kernel
theorem dX6_two_20 : decode cX6_two 20 = .ok (.aload_n 0, 1) := by decide +kernel
theorem dX6_two_21 : decode cX6_two 21 = .ok (.getfield 7, 3) := by decide +kernel
theorem dX6_two_24 : decode cX6_two 24 = .ok (.iconst 2, 1) := by decide +kernel
theorem dX6_two_25 : decode cX6_two 25 = .ok (.if_icmp .ne 55, 3) := by decide +kernel
theorem dX6_two_28 : decode cX6_two 28 = .ok (.iload 5, 2) := by decide +kernel
theorem dX6_two_30 : decode cX6_two 30 = .ok (.bipush 60, 2) := by decide +kernel
theorem dX6_two_32 : decode cX6_two 32 = .ok (.if_icmp .gt 48, 3) := by decide +kernel
theorem dX6_two_35 : decode cX6_two 35 = .ok (.aload_n 0, 1) := by decide +kernel
theorem dX6_two_36 : decode cX6_two 36 = .ok (.iload_n 1, 1) := by decide +kernel
theorem dX6_two_37 : decode cX6_two 37 = .ok (.iconst 1, 1) := by decide +kernel
theorem dX6_two_38 : decode cX6_two 38 = .ok (.bipush 40, 2) := by decide +kernel
theorem dX6_two_40 : decode cX6_two 40 = .ok (.invokevirtual 129, 3) := by decide +kernel
theorem dX6_two_43 : decode cX6_two 43 = .ok (.ifCond .eq 37, 3) := by decide +kernel
theorem dX6_two_46 : decode cX6_two 46 = .ok (.aload_n 0, 1) := by decide +kernel
theorem dX6_two_47 : decode cX6_two 47 = .ok (.iload_n 2, 1) := by decide +kernel
theorem dX6_two_48 : decode cX6_two 48 = .ok (.iconst 0, 1) := by decide +kernel
theorem dX6_two_49 : decode cX6_two 49 = .ok (.sipush 999, 3) := by decide +kernel
theorem dX6_two_52 : decode cX6_two 52 = .ok (.invokevirtual 129, 3) := by decide +kernel
theorem dX6_two_55 : decode cX6_two 55 = .ok (.ifCond .eq 25, 3) := by decide +kernel
theorem dX6_two_58 : decode cX6_two 58 = .ok (.aload_n 0, 1) := by decide +kernel
theorem dX6_two_59 : decode cX6_two 59 = .ok (.iload_n 3, 1) := by decide +kernel
theorem dX6_two_60 : decode cX6_two 60 = .ok (.iconst 0, 1) := by decide +kernel
theorem dX6_two_61 : decode cX6_two 61 = .ok (.iload 5, 2) := by decide +kernel
theorem dX6_two_63 : decode cX6_two 63 = .ok (.invokevirtual 129, 3) := by decide +kernel
theorem dX6_two_66 : decode cX6_two 66 = .ok (.ifCond .eq 14, 3) := by decide +kernel
theorem dX6_two_69 : decode cX6_two 69 = .ok (.aload_n 0, 1) := by decide +kernel
theorem dX6_two_70 : decode cX6_two 70 = .ok (.iload 4, 2) := by decide +kernel
theorem dX6_two_72 : decode cX6_two 72 = .ok (.iconst 0, 1) := by decide +kernel
theorem dX6_two_73 : decode cX6_two 73 = .ok (.iconst 1, 1) := by decide +kernel
theorem dX6_two_74 : decode cX6_two 74 = .ok (.invokevirtual 129, 3) := by decide +kernel
theorem dX6_two_77 : decode cX6_two 77 = .ok (.ifCond .ne 7, 3) := by decide +kernel
theorem dX6_two_80 : decode cX6_two 80 = .ok (.ldc2_w 333, 3) := by decide +kernel
theorem dX6_two_83 : decode cX6_two 83 = .ok (.lreturn, 1) := by decide +kernel
theorem dX6_two_84 : decode cX6_two 84 = .ok (.aload_n 0, 1) := by decide +kernel
theorem dX6_two_85 : decode cX6_two 85 = .ok (.getfield 13, 3) := by decide +kernel
theorem dX6_two_88 : decode cX6_two 88 = .ok (.iconst 0, 1) := by decide +kernel
theorem dX6_two_89 : decode cX6_two 89 = .ok (.iaload, 1) := by decide +kernel
theorem dX6_two_90 : decode cX6_two 90 = .ok (.istore 6, 2) := by decide +kernel
theorem dX6_two_92 : decode cX6_two 92 = .ok (.aload_n 0, 1) := by decide +kernel
theorem dX6_two_93 : decode cX6_two 93 = .ok (.getfield 38, 3) := by decide +kernel
theorem dX6_two_96 : decode cX6_two 96 = .ok (.iconst 1, 1) := by decide +kernel
theorem dX6_two_97 : decode cX6_two 97 = .ok (.iaload, 1) := by decide +kernel
theorem dX6_two_98 : decode cX6_two 98 = .ok (.istore 7, 2) := by decide +kernel
theorem dX6_two_100 : decode cX6_two 100 = .ok (.aload_n 0, 1) := by decide +kernel
theorem dX6_two_101 : decode cX6_two 101 = .ok (.getfield 38, 3) := by decide +kernel
theorem dX6_two_104 : decode cX6_two 104 = .ok (.iconst 1, 1) := by decide +kernel
theorem dX6_two_105 : decode cX6_two 105 = .ok (.iconst 1, 1) := by decide +kernel
theorem dX6_two_106 : decode cX6_two 106 = .ok (.iastore, 1) := by decide +kernel
theorem dX6_two_107 : decode cX6_two 107 = .ok (.iconst 0, 1) := by decide +kernel
theorem dX6_two_108 : decode cX6_two 108 = .ok (.istore 8, 2) := by decide +kernel
theorem dX6_two_110 : decode cX6_two 110 = .ok (.iload 8, 2) := by decide +kernel
theorem dX6_two_112 : decode cX6_two 112 = .ok (.iload 5, 2) := by decide +kernel
theorem dX6_two_114 : decode cX6_two 114 = .ok (.if_icmp .gt 17, 3) := by decide +kernel
theorem dX6_two_117 : decode cX6_two 117 = .ok (.aload_n 0, 1) := by decide +kernel
theorem dX6_two_118 : decode cX6_two 118 = .ok (.getfield 102, 3) := by decide +kernel
theorem dX6_two_121 : decode cX6_two 121 = .ok (.iload 8, 2) := by decide +kernel
theorem dX6_two_123 : decode cX6_two 123 = .ok (.lconst 0, 1) := by decide +kernel
theorem dX6_two_124 : decode cX6_two 124 = .ok (.lastore, 1) := by decide +kernel
theorem dX6_two_125 : decode cX6_two 125 = .ok (.iinc 8 1, 3) := by decide +kernel
theorem dX6_two_128 : decode cX6_two 128 = .ok (.goto (-18), 3) := by decide +kernel
theorem dX6_two_131 : decode cX6_two 131 = .ok (.iconst 0, 1) := by decide +kernel
theorem dX6_two_132 : decode cX6_two 132 = .ok (.istore 8, 2) := by decide +kernel
theorem dX6_two_134 : decode cX6_two 134 = .ok (.iload 8, 2) := by decide +kernel
theorem dX6_two_136 : decode cX6_two 136 = .ok (.iload_n 1, 1) := by decide +kernel
theorem dX6_two_137 : decode cX6_two 137 = .ok (.if_icmp .ge 16, 3) := by decide +kernel
theorem dX6_two_140 : decode cX6_two 140 = .ok (.aload_n 0, 1) := by decide +kernel
theorem dX6_two_141 : decode cX6_two 141 = .ok (.iload_n 2, 1) := by decide +kernel
theorem dX6_two_142 : decode cX6_two 142 = .ok (.iload 5, 2) := by decide +kernel
theorem dX6_two_144 : decode cX6_two 144 = .ok (.invokevirtual 335, 3) := by decide +kernel
theorem dX6_two_147 : decode cX6_two 147 = .ok (.iinc 8 1, 3) := by decide +kernel
theorem dX6_two_150 : decode cX6_two 150 = .ok (.goto (-16), 3) := by decide +kernel
theorem dX6_two_153 : decode cX6_two 153 = .ok (.aload_n 0, 1) := by decide +kernel
theorem dX6_two_154 : decode cX6_two 154 = .ok (.getfield 38, 3) := by decide +kernel
theorem dX6_two_157 : decode cX6_two 157 = .ok (.iconst 1, 1) := by decide +kernel
theorem dX6_two_158 : decode cX6_two 158 = .ok (.iload 7, 2) := by decide +kernel
theorem dX6_two_160 : decode cX6_two 160 = .ok (.iastore, 1) := by decide +kernel
theorem dX6_two_161 : decode cX6_two 161 = .ok (.aload_n 0, 1) := by decide +kernel
theorem dX6_two_162 : decode cX6_two 162 = .ok (.getfield 13, 3) := by decide +kernel
theorem dX6_two_165 : decode cX6_two 165 = .ok (.iconst 0, 1) := by decide +kernel
theorem dX6_two_166 : decode cX6_two 166 = .ok (.iload 6, 2) := by decide +kernel
theorem dX6_two_168 : decode cX6_two 168 = .ok (.iastore, 1) := by decide +kernel
theorem dX6_two_169 : decode cX6_two 169 = .ok (.aload_n 0, 1) := by decide +kernel
theorem dX6_two_170 : decode cX6_two 170 = .ok (.getfield 13, 3) := by decide +kernel
theorem dX6_two_173 : decode cX6_two 173 = .ok (.iconst 1, 1) := by decide +kernel
theorem dX6_two_174 : decode cX6_two 174 = .ok (.iload 5, 2) := by decide +kernel
theorem dX6_two_176 : decode cX6_two 176 = .ok (.iload 6, 2) := by decide +kernel
theorem dX6_two_178 : decode cX6_two 178 = .ok (.isub, 1) := by decide +kernel
theorem dX6_two_179 : decode cX6_two 179 = .ok (.iastore, 1) := by decide +kernel
theorem dX6_two_180 : decode cX6_two 180 = .ok (.iload 4, 2) := by decide +kernel
theorem dX6_two_182 : decode cX6_two 182 = .ok (.ifCond .ne 12, 3) := by decide +kernel
theorem dX6_two_185 : decode cX6_two 185 = .ok (.aload_n 0, 1) := by decide +kernel
theorem dX6_two_186 : decode cX6_two 186 = .ok (.getfield 102, 3) := by decide +kernel
theorem dX6_two_189 : decode cX6_two 189 = .ok (.iload_n 3, 1) := by decide +kernel
theorem dX6_two_190 : decode cX6_two 190 = .ok (.laload, 1) := by decide +kernel
theorem dX6_two_191 : decode cX6_two 191 = .ok (.goto 10, 3) := by decide +kernel
theorem dX6_two_194 : decode cX6_two 194 = .ok (.aload_n 0, 1) := by decide +kernel
theorem dX6_two_195 : decode cX6_two 195 = .ok (.getfield 109, 3) := by decide +kernel
theorem dX6_two_198 : decode cX6_two 198 = .ok (.iload_n 3, 1) := by decide +kernel
theorem dX6_two_199 : decode cX6_two 199 = .ok (.iaload, 1) := by decide +kernel
theorem dX6_two_200 : decode cX6_two 200 = .ok (.i2l, 1) := by decide +kernel
theorem dX6_two_201 : decode cX6_two 201 = .ok (.lreturn, 1) := by decide +kernel
set_option maxRecDepth 20000 in
theorem ggX6_was_X6_isFarm : GoodIn wsX6_was wsX6_isFarm := goodIn_r _ [7, 8, 13, 14, 15, 16, 17, 18, 19, 20, 21, 22, 23, 24, 25, 26, 27, 28, 29, 30, 31, 32, 33, 34, 35, 36, 37, 38, 39, 40, 41, 42, 43, 44, 45, 46, 47, 48, 49, 50, 51, 52, 53, 54, 55, 56, 57, 58, 59, 60, 61, 62, 63, 64, 65, 66, 67] (by decide +kernel) (by decide +kernel)
set_option maxRecDepth 20000 in
theorem gX6_was_X6_isFarm : GoodIn wsX6_was (wsV RX6 133 RX6 yX6_isFarm wsX6_isFarm) := goodIn_app (goodIn_of _ (by decide +kernel)) ggX6_was_X6_isFarm
set_option maxRecDepth 20000 in
theorem ggX6_was_X6_isIn : GoodIn wsX6_was wsX6_isIn := goodIn_r _ [12] (by decide +kernel) (by decide +kernel)
set_option maxRecDepth 20000 in
theorem gX6_was_X6_isIn : GoodIn wsX6_was (wsV RX6 129 RX6 yX6_isIn wsX6_isIn) := goodIn_app (goodIn_of _ (by decide +kernel)) ggX6_was_X6_isIn
theorem dX6_was_0 : decode cX6_was 0 = .ok (.aload_n 0, 1) := by decide +kernel
theorem dX6_was_1 : decode cX6_was 1 = .ok (.iconst 0, 1) := by decide +kernel
theorem dX6_was_2 : decode cX6_was 2 = .ok (.putfield 121, 3) := by decide +kernel
theorem dX6_was_5 : decode cX6_was 5 = .ok (.aload_n 0, 1) := by decide +kernel
theorem dX6_was_6 : decode cX6_was 6 = .ok (.iload_n 1, 1) := by decide +kernel
theorem dX6_was_7 : decode cX6_was 7 = .ok (.invokevirtual 133, 3) := by decide +kernel
theorem dX6_was_10 : decode cX6_was 10 = .ok (.ifCond .eq 14, 3) := by decide +kernel
theorem dX6_was_13 : decode cX6_was 13 = .ok (.aload_n 0, 1) := by decide +kernel
theorem dX6_was_14 : decode cX6_was 14 = .ok (.iload_n 2, 1) := by decide +kernel
theorem dX6_was_15 : decode cX6_was 15 = .ok (.iconst (-1), 1) := by decide +kernel
theorem dX6_was_16 : decode cX6_was 16 = .ok (.bipush 60, 2) := by decide +kernel
theorem dX6_was_18 : decode cX6_was 18 = .ok (.invokevirtual 129, 3) := by decide +kernel
theorem dX6_was_21 : decode cX6_was 21 = .ok (.ifCond .ne 5, 3) := by decide +kernel
theorem dX6_was_24 : decode cX6_was 24 = .ok (.iconst 0, 1) := by decide +kernel
theorem dX6_was_25 : decode cX6_was 25 = .ok (.ireturn, 1) := by decide +kernel
theorem dX6_was_26 : decode cX6_was 26 = .ok (.aload_n 0, 1) := by decide +kernel
theorem dX6_was_27 : decode cX6_was 27 = .ok (.getfield 50, 3) := by decide +kernel
theorem dX6_was_30 : decode cX6_was 30 = .ok (.iload_n 1, 1) := by decide +kernel
theorem dX6_was_31 : decode cX6_was 31 = .ok (.iload_n 2, 1) := by decide +kernel
theorem dX6_was_32 : decode cX6_was 32 = .ok (.iastore, 1) := by decide +kernel
theorem dX6_was_33 : decode cX6_was 33 = .ok (.iconst 1, 1) := by decide +kernel
theorem dX6_was_34 : decode cX6_was 34 = .ok (.ireturn, 1) := by decide +kernel
set_option maxRecDepth 20000 in
theorem ggX6_feetBy_X6_size : GoodIn wsX6_feetBy wsX6_size := goodIn_r _ [10] (by decide +kernel) (by decide +kernel)
set_option maxRecDepth 20000 in
theorem gX6_feetBy_X6_size : GoodIn wsX6_feetBy (wsV RX6 338 RX6 yX6_size wsX6_size) := goodIn_app (goodIn_of _ (by decide +kernel)) ggX6_feetBy_X6_size
theorem dX6_feetBy_0 : decode cX6_feetBy 0 = .ok (.iload_n 1, 1) := by decide +kernel
theorem dX6_feetBy_1 : decode cX6_feetBy 1 = .ok (.istore_n 2, 1) := by decide +kernel
theorem dX6_feetBy_2 : decode cX6_feetBy 2 = .ok (.iconst 0, 1) := by decide +kernel
theorem dX6_feetBy_3 : decode cX6_feetBy 3 = .ok (.istore_n 3, 1) := by decide +kernel
theorem dX6_feetBy_4 : decode cX6_feetBy 4 = .ok (.iconst 0, 1) := by decide +kernel
theorem dX6_feetBy_5 : decode cX6_feetBy 5 = .ok (.istore 4, 2) := by decide +kernel
theorem dX6_feetBy_7 : decode cX6_feetBy 7 = .ok (.iload 4, 2) := by decide +kernel
theorem dX6_feetBy_9 : decode cX6_feetBy 9 = .ok (.aload_n 0, 1) := by decide +kernel
theorem dX6_feetBy_10 : decode cX6_feetBy 10 = .ok (.getfield 7, 3) := by decide +kernel
theorem dX6_feetBy_13 : decode cX6_feetBy 13 = .ok (.if_icmp .ge 67, 3) := by decide +kernel
theorem dX6_feetBy_16 : decode cX6_feetBy 16 = .ok (.iload_n 2, 1) := by decide +kernel
theorem dX6_feetBy_17 : decode cX6_feetBy 17 = .ok (.aload_n 0, 1) := by decide +kernel
theorem dX6_feetBy_18 : decode cX6_feetBy 18 = .ok (.getfield 13, 3) := by decide +kernel
theorem dX6_feetBy_21 : decode cX6_feetBy 21 = .ok (.iload 4, 2) := by decide +kernel
theorem dX6_feetBy_23 : decode cX6_feetBy 23 = .ok (.iaload, 1) := by decide +kernel
theorem dX6_feetBy_24 : decode cX6_feetBy 24 = .ok (.iadd, 1) := by decide +kernel
theorem dX6_feetBy_25 : decode cX6_feetBy 25 = .ok (.aload_n 0, 1) := by decide +kernel
theorem dX6_feetBy_26 : decode cX6_feetBy 26 = .ok (.getfield 50, 3) := by decide +kernel
theorem dX6_feetBy_29 : decode cX6_feetBy 29 = .ok (.iload 4, 2) := by decide +kernel
theorem dX6_feetBy_31 : decode cX6_feetBy 31 = .ok (.iaload, 1) := by decide +kernel
theorem dX6_feetBy_32 : decode cX6_feetBy 32 = .ok (.isub, 1) := by decide +kernel
theorem dX6_feetBy_33 : decode cX6_feetBy 33 = .ok (.istore_n 2, 1) := by decide +kernel
theorem dX6_feetBy_34 : decode cX6_feetBy 34 = .ok (.aload_n 0, 1) := by decide +kernel
theorem dX6_feetBy_35 : decode cX6_feetBy 35 = .ok (.iload_n 2, 1) := by decide +kernel
theorem dX6_feetBy_36 : decode cX6_feetBy 36 = .ok (.invokevirtual 338, 3) := by decide +kernel
theorem dX6_feetBy_39 : decode cX6_feetBy 39 = .ok (.aload_n 0, 1) := by decide +kernel
theorem dX6_feetBy_40 : decode cX6_feetBy 40 = .ok (.getfield 38, 3) := by decide +kernel
theorem dX6_feetBy_43 : decode cX6_feetBy 43 = .ok (.iload 4, 2) := by decide +kernel
theorem dX6_feetBy_45 : decode cX6_feetBy 45 = .ok (.iaload, 1) := by decide +kernel
theorem dX6_feetBy_46 : decode cX6_feetBy 46 = .ok (.iconst 1, 1) := by decide +kernel
theorem dX6_feetBy_47 : decode cX6_feetBy 47 = .ok (.if_icmp .ne 7, 3) := by decide +kernel
theorem dX6_feetBy_50 : decode cX6_feetBy 50 = .ok (.iconst 0, 1) := by decide +kernel
theorem dX6_feetBy_51 : decode cX6_feetBy 51 = .ok (.goto 10, 3) := by decide +kernel
theorem dX6_feetBy_54 : decode cX6_feetBy 54 = .ok (.aload_n 0, 1) := by decide +kernel
theorem dX6_feetBy_55 : decode cX6_feetBy 55 = .ok (.getfield 53, 3) := by decide +kernel
theorem dX6_feetBy_58 : decode cX6_feetBy 58 = .ok (.bipush 9, 2) := by decide +kernel
theorem dX6_feetBy_60 : decode cX6_feetBy 60 = .ok (.iaload, 1) := by decide +kernel
theorem dX6_feetBy_61 : decode cX6_feetBy 61 = .ok (.if_icmp .le 5, 3) := by decide +kernel
theorem dX6_feetBy_64 : decode cX6_feetBy 64 = .ok (.iconst (-1), 1) := by decide +kernel
theorem dX6_feetBy_65 : decode cX6_feetBy 65 = .ok (.ireturn, 1) := by decide +kernel
theorem dX6_feetBy_66 : decode cX6_feetBy 66 = .ok (.iload_n 3, 1) := by decide +kernel
theorem dX6_feetBy_67 : decode cX6_feetBy 67 = .ok (.aload_n 0, 1) := by decide +kernel
theorem dX6_feetBy_68 : decode cX6_feetBy 68 = .ok (.iload_n 2, 1) := by decide +kernel
theorem dX6_feetBy_69 : decode cX6_feetBy 69 = .ok (.invokevirtual 338, 3) := by decide +kernel
theorem dX6_feetBy_72 : decode cX6_feetBy 72 = .ok (.iadd, 1) := by decide +kernel
theorem dX6_feetBy_73 : decode cX6_feetBy 73 = .ok (.istore_n 3, 1) := by decide +kernel
theorem dX6_feetBy_74 : decode cX6_feetBy 74 = .ok (.iinc 4 1, 3) := by decide +kernel
theorem dX6_feetBy_77 : decode cX6_feetBy 77 = .ok (.goto (-70), 3) := by decide +kernel
theorem dX6_feetBy_80 : decode cX6_feetBy 80 = .ok (.iload_n 2, 1) := by decide +kernel
theorem dX6_feetBy_81 : decode cX6_feetBy 81 = .ok (.iload_n 1, 1) := by decide +kernel
theorem dX6_feetBy_82 : decode cX6_feetBy 82 = .ok (.if_icmp .ne 7, 3) := by decide +kernel
theorem dX6_feetBy_85 : decode cX6_feetBy 85 = .ok (.iload_n 3, 1) := by decide +kernel
theorem dX6_feetBy_86 : decode cX6_feetBy 86 = .ok (.goto 4, 3) := by decide +kernel
theorem dX6_feetBy_89 : decode cX6_feetBy 89 = .ok (.iconst (-1), 1) := by decide +kernel
theorem dX6_feetBy_90 : decode cX6_feetBy 90 = .ok (.ireturn, 1) := by decide +kernel
set_option maxRecDepth 20000 in
theorem ggX6_judged_X6_feetBy : GoodIn wsX6_judged wsX6_feetBy := goodIn_r _ [9, 2, 10, 3, 11, 4, 12, 13, 14, 8, 15, 16, 17, 18, 19, 20, 21, 22, 23, 24, 25, 26, 27, 28, 29, 30, 31, 32, 33, 34, 35, 36, 37, 38, 39, 40, 41, 42, 43, 44, 45, 46, 47, 48, 49, 50, 51, 52, 53, 54, 55, 56, 57, 58, 59, 60, 61, 62, 63, 64, 65, 66, 67, 68, 69, 70] (by decide +kernel) (by decide +kernel)
set_option maxRecDepth 20000 in
theorem gX6_judged_X6_feetBy : GoodIn wsX6_judged (wsV RX6 341 RX6 yX6_feetBy wsX6_feetBy) := goodIn_app (goodIn_of _ (by decide +kernel)) ggX6_judged_X6_feetBy
theorem dX6_judged_0 : decode cX6_judged 0 = .ok (.aload_n 0, 1) := by decide +kernel
theorem dX6_judged_1 : decode cX6_judged 1 = .ok (.iconst 0, 1) := by decide +kernel
theorem dX6_judged_2 : decode cX6_judged 2 = .ok (.putfield 121, 3) := by decide +kernel
theorem dX6_judged_5 : decode cX6_judged 5 = .ok (.iconst 0, 1) := by decide +kernel
theorem dX6_judged_6 : decode cX6_judged 6 = .ok (.istore_n 1, 1) := by decide +kernel
theorem dX6_judged_7 : decode cX6_judged 7 = .ok (.iload_n 1, 1) := by decide +kernel
theorem dX6_judged_8 : decode cX6_judged 8 = .ok (.aload_n 0, 1) := by decide +kernel
theorem dX6_judged_9 : decode cX6_judged 9 = .ok (.getfield 7, 3) := by decide +kernel
theorem dX6_judged_12 : decode cX6_judged 12 = .ok (.if_icmp .ge 21, 3) := by decide +kernel
theorem dX6_judged_15 : decode cX6_judged 15 = .ok (.aload_n 0, 1) := by decide +kernel
theorem dX6_judged_16 : decode cX6_judged 16 = .ok (.getfield 50, 3) := by decide +kernel
theorem dX6_judged_19 : decode cX6_judged 19 = .ok (.iload_n 1, 1) := by decide +kernel
theorem dX6_judged_20 : decode cX6_judged 20 = .ok (.iaload, 1) := by decide +kernel
theorem dX6_judged_21 : decode cX6_judged 21 = .ok (.iconst (-1), 1) := by decide +kernel
theorem dX6_judged_22 : decode cX6_judged 22 = .ok (.if_icmp .ne 5, 3) := by decide +kernel
theorem dX6_judged_25 : decode cX6_judged 25 = .ok (.iconst (-1), 1) := by decide +kernel
theorem dX6_judged_26 : decode cX6_judged 26 = .ok (.ireturn, 1) := by decide +kernel
theorem dX6_judged_27 : decode cX6_judged 27 = .ok (.iinc 1 1, 3) := by decide +kernel
theorem dX6_judged_30 : decode cX6_judged 30 = .ok (.goto (-23), 3) := by decide +kernel
theorem dX6_judged_33 : decode cX6_judged 33 = .ok (.iconst (-1), 1) := by decide +kernel
theorem dX6_judged_34 : decode cX6_judged 34 = .ok (.istore_n 1, 1) := by decide +kernel
theorem dX6_judged_35 : decode cX6_judged 35 = .ok (.aload_n 0, 1) := by decide +kernel
theorem dX6_judged_36 : decode cX6_judged 36 = .ok (.getfield 53, 3) := by decide +kernel
theorem dX6_judged_39 : decode cX6_judged 39 = .ok (.bipush 9, 2) := by decide +kernel
theorem dX6_judged_41 : decode cX6_judged 41 = .ok (.iaload, 1) := by decide +kernel
theorem dX6_judged_42 : decode cX6_judged 42 = .ok (.ineg, 1) := by decide +kernel
theorem dX6_judged_43 : decode cX6_judged 43 = .ok (.istore_n 2, 1) := by decide +kernel
theorem dX6_judged_44 : decode cX6_judged 44 = .ok (.iload_n 2, 1) := by decide +kernel
theorem dX6_judged_45 : decode cX6_judged 45 = .ok (.aload_n 0, 1) := by decide +kernel
theorem dX6_judged_46 : decode cX6_judged 46 = .ok (.getfield 53, 3) := by decide +kernel
theorem dX6_judged_49 : decode cX6_judged 49 = .ok (.bipush 9, 2) := by decide +kernel
theorem dX6_judged_51 : decode cX6_judged 51 = .ok (.iaload, 1) := by decide +kernel
theorem dX6_judged_52 : decode cX6_judged 52 = .ok (.if_icmp .gt 32, 3) := by decide +kernel
theorem dX6_judged_55 : decode cX6_judged 55 = .ok (.aload_n 0, 1) := by decide +kernel
theorem dX6_judged_56 : decode cX6_judged 56 = .ok (.iload_n 2, 1) := by decide +kernel
theorem dX6_judged_57 : decode cX6_judged 57 = .ok (.invokevirtual 341, 3) := by decide +kernel
theorem dX6_judged_60 : decode cX6_judged 60 = .ok (.istore_n 3, 1) := by decide +kernel
theorem dX6_judged_61 : decode cX6_judged 61 = .ok (.iload_n 3, 1) := by decide +kernel
theorem dX6_judged_62 : decode cX6_judged 62 = .ok (.iconst (-1), 1) := by decide +kernel
theorem dX6_judged_63 : decode cX6_judged 63 = .ok (.if_icmp .eq 15, 3) := by decide +kernel
theorem dX6_judged_66 : decode cX6_judged 66 = .ok (.iload_n 1, 1) := by decide +kernel
theorem dX6_judged_67 : decode cX6_judged 67 = .ok (.iconst (-1), 1) := by decide +kernel
theorem dX6_judged_68 : decode cX6_judged 68 = .ok (.if_icmp .eq 8, 3) := by decide +kernel
theorem dX6_judged_71 : decode cX6_judged 71 = .ok (.iload_n 3, 1) := by decide +kernel
theorem dX6_judged_72 : decode cX6_judged 72 = .ok (.iload_n 1, 1) := by decide +kernel
theorem dX6_judged_73 : decode cX6_judged 73 = .ok (.if_icmp .ge 5, 3) := by decide +kernel
theorem dX6_judged_76 : decode cX6_judged 76 = .ok (.iload_n 3, 1) := by decide +kernel
theorem dX6_judged_77 : decode cX6_judged 77 = .ok (.istore_n 1, 1) := by decide +kernel
theorem dX6_judged_78 : decode cX6_judged 78 = .ok (.iinc 2 1, 3) := by decide +kernel
theorem dX6_judged_81 : decode cX6_judged 81 = .ok (.goto (-37), 3) := by decide +kernel
theorem dX6_judged_84 : decode cX6_judged 84 = .ok (.iload_n 1, 1) := by decide +kernel
theorem dX6_judged_85 : decode cX6_judged 85 = .ok (.ireturn, 1) := by decide +kernel
theorem dX6_putAside_0 : decode cX6_putAside 0 = .ok (.aload_n 0, 1) := by decide +kernel
theorem dX6_putAside_1 : decode cX6_putAside 1 = .ok (.aload_n 0, 1) := by decide +kernel
theorem dX6_putAside_2 : decode cX6_putAside 2 = .ok (.getfield 344, 3) := by decide +kernel
theorem dX6_putAside_5 : decode cX6_putAside 5 = .ok (.iconst 1, 1) := by decide +kernel
theorem dX6_putAside_6 : decode cX6_putAside 6 = .ok (.iadd, 1) := by decide +kernel
theorem dX6_putAside_7 : decode cX6_putAside 7 = .ok (.putfield 344, 3) := by decide +kernel
theorem dX6_putAside_10 : decode cX6_putAside 10 = .ok (.aload_n 0, 1) := by decide +kernel
theorem dX6_putAside_11 : decode cX6_putAside 11 = .ok (.getfield 347, 3) := by decide +kernel
theorem dX6_putAside_14 : decode cX6_putAside 14 = .ok (.ifCond .ne 15, 3) := by decide +kernel
theorem dX6_putAside_17 : decode cX6_putAside 17 = .ok (.aload_n 0, 1) := by decide +kernel
theorem dX6_putAside_18 : decode cX6_putAside 18 = .ok (.getfield 112, 3) := by decide +kernel
theorem dX6_putAside_21 : decode cX6_putAside 21 = .ok (.aload_n 0, 1) := by decide +kernel
theorem dX6_putAside_22 : decode cX6_putAside 22 = .ok (.getfield 344, 3) := by decide +kernel
theorem dX6_putAside_25 : decode cX6_putAside 25 = .ok (.iconst 1, 1) := by decide +kernel
theorem dX6_putAside_26 : decode cX6_putAside 26 = .ok (.isub, 1) := by decide +kernel
theorem dX6_putAside_27 : decode cX6_putAside 27 = .ok (.iaload, 1) := by decide +kernel
theorem dX6_putAside_28 : decode cX6_putAside 28 = .ok (.ireturn, 1) := by decide +kernel
theorem dX6_putAside_29 : decode cX6_putAside 29 = .ok (.aload_n 0, 1) := by decide +kernel
theorem dX6_putAside_30 : decode cX6_putAside 30 = .ok (.getfield 112, 3) := by decide +kernel
theorem dX6_putAside_33 : decode cX6_putAside 33 = .ok (.aload_n 0, 1) := by decide +kernel
theorem dX6_putAside_34 : decode cX6_putAside 34 = .ok (.getfield 344, 3) := by decide +kernel
theorem dX6_putAside_37 : decode cX6_putAside 37 = .ok (.iconst 1, 1) := by decide +kernel
theorem dX6_putAside_38 : decode cX6_putAside 38 = .ok (.isub, 1) := by decide +kernel
theorem dX6_putAside_39 : decode cX6_putAside 39 = .ok (.iload_n 1, 1) := by decide +kernel
theorem dX6_putAside_40 : decode cX6_putAside 40 = .ok (.iastore, 1) := by decide +kernel
theorem dX6_putAside_41 : decode cX6_putAside 41 = .ok (.iload_n 1, 1) := by decide +kernel
theorem dX6_putAside_42 : decode cX6_putAside 42 = .ok (.ireturn, 1) := by decide +kernel
set_option maxRecDepth 20000 in
theorem ggX6_asides_X6_putAside : GoodIn wsX6_asides wsX6_putAside := goodIn_r _ [25, 2, 1, 26, 27, 28, 29, 30, 31, 32, 33, 34, 35, 36, 37, 38, 39, 40, 41, 42, 43, 44, 45, 46, 47, 48, 49, 50, 51, 52, 53, 54, 55, 56, 57, 58, 59, 60, 61, 62, 63, 64, 65, 66, 67, 68, 69, 70, 71, 72, 73, 74, 75, 76, 77, 78, 79, 80, 81] (by decide +kernel) (by decide +kernel)
set_option maxRecDepth 20000 in
theorem gX6_asides_X6_putAside : GoodIn wsX6_asides (wsV RX6 351 RX6 yX6_putAside wsX6_putAside) := goodIn_app (goodIn_of _ (by decide +kernel)) ggX6_asides_X6_putAside
theorem dX6_asides_0 : decode cX6_asides 0 = .ok (.aload_n 0, 1) := by decide +kernel
theorem dX6_asides_1 : decode cX6_asides 1 = .ok (.iload_n 1, 1) := by decide +kernel
theorem dX6_asides_2 : decode cX6_asides 2 = .ok (.putfield 347, 3) := by decide +kernel
theorem dX6_asides_5 : decode cX6_asides 5 = .ok (.aload_n 0, 1) := by decide +kernel
theorem dX6_asides_6 : decode cX6_asides 6 = .ok (.iconst 0, 1) := by decide +kernel
theorem dX6_asides_7 : decode cX6_asides 7 = .ok (.putfield 344, 3) := by decide +kernel
theorem dX6_asides_10 : decode cX6_asides 10 = .ok (.aload_n 0, 1) := by decide +kernel
theorem dX6_asides_11 : decode cX6_asides 11 = .ok (.aload_n 0, 1) := by decide +kernel
theorem dX6_asides_12 : decode cX6_asides 12 = .ok (.aload_n 0, 1) := by decide +kernel
theorem dX6_asides_13 : decode cX6_asides 13 = .ok (.getfield 124, 3) := by decide +kernel
theorem dX6_asides_16 : decode cX6_asides 16 = .ok (.invokevirtual 351, 3) := by decide +kernel
theorem dX6_asides_19 : decode cX6_asides 19 = .ok (.putfield 124, 3) := by decide +kernel
theorem dX6_asides_22 : decode cX6_asides 22 = .ok (.aload_n 0, 1) := by decide +kernel
theorem dX6_asides_23 : decode cX6_asides 23 = .ok (.aload_n 0, 1) := by decide +kernel
theorem dX6_asides_24 : decode cX6_asides 24 = .ok (.aload_n 0, 1) := by decide +kernel
theorem dX6_asides_25 : decode cX6_asides 25 = .ok (.getfield 7, 3) := by decide +kernel
theorem dX6_asides_28 : decode cX6_asides 28 = .ok (.invokevirtual 351, 3) := by decide +kernel
theorem dX6_asides_31 : decode cX6_asides 31 = .ok (.putfield 7, 3) := by decide +kernel
theorem dX6_asides_34 : decode cX6_asides 34 = .ok (.aload_n 0, 1) := by decide +kernel
theorem dX6_asides_35 : decode cX6_asides 35 = .ok (.aload_n 0, 1) := by decide +kernel
theorem dX6_asides_36 : decode cX6_asides 36 = .ok (.aload_n 0, 1) := by decide +kernel
theorem dX6_asides_37 : decode cX6_asides 37 = .ok (.getfield 251, 3) := by decide +kernel
theorem dX6_asides_40 : decode cX6_asides 40 = .ok (.invokevirtual 351, 3) := by decide +kernel
theorem dX6_asides_43 : decode cX6_asides 43 = .ok (.putfield 251, 3) := by decide +kernel
theorem dX6_asides_46 : decode cX6_asides 46 = .ok (.aload_n 0, 1) := by decide +kernel
theorem dX6_asides_47 : decode cX6_asides 47 = .ok (.aload_n 0, 1) := by decide +kernel
theorem dX6_asides_48 : decode cX6_asides 48 = .ok (.aload_n 0, 1) := by decide +kernel
theorem dX6_asides_49 : decode cX6_asides 49 = .ok (.getfield 263, 3) := by decide +kernel
theorem dX6_asides_52 : decode cX6_asides 52 = .ok (.invokevirtual 351, 3) := by decide +kernel
theorem dX6_asides_55 : decode cX6_asides 55 = .ok (.putfield 263, 3) := by decide +kernel
theorem dX6_asides_58 : decode cX6_asides 58 = .ok (.iconst 0, 1) := by decide +kernel
theorem dX6_asides_59 : decode cX6_asides 59 = .ok (.istore_n 2, 1) := by decide +kernel
theorem dX6_asides_60 : decode cX6_asides 60 = .ok (.iload_n 2, 1) := by decide +kernel
theorem dX6_asides_61 : decode cX6_asides 61 = .ok (.bipush 10, 2) := by decide +kernel
theorem dX6_asides_63 : decode cX6_asides 63 = .ok (.if_icmp .ge 233, 3) := by decide +kernel
theorem dX6_asides_66 : decode cX6_asides 66 = .ok (.aload_n 0, 1) := by decide +kernel
theorem dX6_asides_67 : decode cX6_asides 67 = .ok (.getfield 53, 3) := by decide +kernel
theorem dX6_asides_70 : decode cX6_asides 70 = .ok (.iload_n 2, 1) := by decide +kernel
theorem dX6_asides_71 : decode cX6_asides 71 = .ok (.aload_n 0, 1) := by decide +kernel
theorem dX6_asides_72 : decode cX6_asides 72 = .ok (.aload_n 0, 1) := by decide +kernel
theorem dX6_asides_73 : decode cX6_asides 73 = .ok (.getfield 53, 3) := by decide +kernel
theorem dX6_asides_76 : decode cX6_asides 76 = .ok (.iload_n 2, 1) := by decide +kernel
theorem dX6_asides_77 : decode cX6_asides 77 = .ok (.iaload, 1) := by decide +kernel
theorem dX6_asides_78 : decode cX6_asides 78 = .ok (.invokevirtual 351, 3) := by decide +kernel
theorem dX6_asides_81 : decode cX6_asides 81 = .ok (.iastore, 1) := by decide +kernel
theorem dX6_asides_82 : decode cX6_asides 82 = .ok (.aload_n 0, 1) := by decide +kernel
theorem dX6_asides_83 : decode cX6_asides 83 = .ok (.getfield 13, 3) := by decide +kernel
theorem dX6_asides_86 : decode cX6_asides 86 = .ok (.iload_n 2, 1) := by decide +kernel
theorem dX6_asides_87 : decode cX6_asides 87 = .ok (.aload_n 0, 1) := by decide +kernel
theorem dX6_asides_88 : decode cX6_asides 88 = .ok (.aload_n 0, 1) := by decide +kernel
theorem dX6_asides_89 : decode cX6_asides 89 = .ok (.getfield 13, 3) := by decide +kernel
theorem dX6_asides_92 : decode cX6_asides 92 = .ok (.iload_n 2, 1) := by decide +kernel
theorem dX6_asides_93 : decode cX6_asides 93 = .ok (.iaload, 1) := by decide +kernel
theorem dX6_asides_94 : decode cX6_asides 94 = .ok (.invokevirtual 351, 3) := by decide +kernel
theorem dX6_asides_97 : decode cX6_asides 97 = .ok (.iastore, 1) := by decide +kernel
theorem dX6_asides_98 : decode cX6_asides 98 = .ok (.aload_n 0, 1) := by decide +kernel
theorem dX6_asides_99 : decode cX6_asides 99 = .ok (.getfield 17, 3) := by decide +kernel
theorem dX6_asides_102 : decode cX6_asides 102 = .ok (.iload_n 2, 1) := by decide +kernel
theorem dX6_asides_103 : decode cX6_asides 103 = .ok (.aload_n 0, 1) := by decide +kernel
theorem dX6_asides_104 : decode cX6_asides 104 = .ok (.aload_n 0, 1) := by decide +kernel
theorem dX6_asides_105 : decode cX6_asides 105 = .ok (.getfield 17, 3) := by decide +kernel
theorem dX6_asides_108 : decode cX6_asides 108 = .ok (.iload_n 2, 1) := by decide +kernel
theorem dX6_asides_109 : decode cX6_asides 109 = .ok (.iaload, 1) := by decide +kernel
theorem dX6_asides_110 : decode cX6_asides 110 = .ok (.invokevirtual 351, 3) := by decide +kernel
theorem dX6_asides_113 : decode cX6_asides 113 = .ok (.iastore, 1) := by decide +kernel
theorem dX6_asides_114 : decode cX6_asides 114 = .ok (.aload_n 0, 1) := by decide +kernel
theorem dX6_asides_115 : decode cX6_asides 115 = .ok (.getfield 20, 3) := by decide +kernel
theorem dX6_asides_118 : decode cX6_asides 118 = .ok (.iload_n 2, 1) := by decide +kernel
theorem dX6_asides_119 : decode cX6_asides 119 = .ok (.aload_n 0, 1) := by decide +kernel
theorem dX6_asides_120 : decode cX6_asides 120 = .ok (.aload_n 0, 1) := by decide +kernel
theorem dX6_asides_121 : decode cX6_asides 121 = .ok (.getfield 20, 3) := by decide +kernel
theorem dX6_asides_124 : decode cX6_asides 124 = .ok (.iload_n 2, 1) := by decide +kernel
theorem dX6_asides_125 : decode cX6_asides 125 = .ok (.iaload, 1) := by decide +kernel
theorem dX6_asides_126 : decode cX6_asides 126 = .ok (.invokevirtual 351, 3) := by decide +kernel
theorem dX6_asides_129 : decode cX6_asides 129 = .ok (.iastore, 1) := by decide +kernel
theorem dX6_asides_130 : decode cX6_asides 130 = .ok (.aload_n 0, 1) := by decide +kernel
theorem dX6_asides_131 : decode cX6_asides 131 = .ok (.getfield 23, 3) := by decide +kernel
theorem dX6_asides_134 : decode cX6_asides 134 = .ok (.iload_n 2, 1) := by decide +kernel
theorem dX6_asides_135 : decode cX6_asides 135 = .ok (.aload_n 0, 1) := by decide +kernel
theorem dX6_asides_136 : decode cX6_asides 136 = .ok (.aload_n 0, 1) := by decide +kernel
theorem dX6_asides_137 : decode cX6_asides 137 = .ok (.getfield 23, 3) := by decide +kernel
theorem dX6_asides_140 : decode cX6_asides 140 = .ok (.iload_n 2, 1) := by decide +kernel
theorem dX6_asides_141 : decode cX6_asides 141 = .ok (.iaload, 1) := by decide +kernel
theorem dX6_asides_142 : decode cX6_asides 142 = .ok (.invokevirtual 351, 3) := by decide +kernel
theorem dX6_asides_145 : decode cX6_asides 145 = .ok (.iastore, 1) := by decide +kernel
theorem dX6_asides_146 : decode cX6_asides 146 = .ok (.aload_n 0, 1) := by decide +kernel
theorem dX6_asides_147 : decode cX6_asides 147 = .ok (.getfield 26, 3) := by decide +kernel
theorem dX6_asides_150 : decode cX6_asides 150 = .ok (.iload_n 2, 1) := by decide +kernel
theorem dX6_asides_151 : decode cX6_asides 151 = .ok (.aload_n 0, 1) := by decide +kernel
theorem dX6_asides_152 : decode cX6_asides 152 = .ok (.aload_n 0, 1) := by decide +kernel
theorem dX6_asides_153 : decode cX6_asides 153 = .ok (.getfield 26, 3) := by decide +kernel
theorem dX6_asides_156 : decode cX6_asides 156 = .ok (.iload_n 2, 1) := by decide +kernel
theorem dX6_asides_157 : decode cX6_asides 157 = .ok (.iaload, 1) := by decide +kernel
theorem dX6_asides_158 : decode cX6_asides 158 = .ok (.invokevirtual 351, 3) := by decide +kernel
theorem dX6_asides_161 : decode cX6_asides 161 = .ok (.iastore, 1) := by decide +kernel
theorem dX6_asides_162 : decode cX6_asides 162 = .ok (.aload_n 0, 1) := by decide +kernel
theorem dX6_asides_163 : decode cX6_asides 163 = .ok (.getfield 29, 3) := by decide +kernel
theorem dX6_asides_166 : decode cX6_asides 166 = .ok (.iload_n 2, 1) := by decide +kernel
theorem dX6_asides_167 : decode cX6_asides 167 = .ok (.aload_n 0, 1) := by decide +kernel
theorem dX6_asides_168 : decode cX6_asides 168 = .ok (.aload_n 0, 1) := by decide +kernel
theorem dX6_asides_169 : decode cX6_asides 169 = .ok (.getfield 29, 3) := by decide +kernel
theorem dX6_asides_172 : decode cX6_asides 172 = .ok (.iload_n 2, 1) := by decide +kernel
theorem dX6_asides_173 : decode cX6_asides 173 = .ok (.iaload, 1) := by decide +kernel
theorem dX6_asides_174 : decode cX6_asides 174 = .ok (.invokevirtual 351, 3) := by decide +kernel
theorem dX6_asides_177 : decode cX6_asides 177 = .ok (.iastore, 1) := by decide +kernel
theorem dX6_asides_178 : decode cX6_asides 178 = .ok (.aload_n 0, 1) := by decide +kernel
theorem dX6_asides_179 : decode cX6_asides 179 = .ok (.getfield 32, 3) := by decide +kernel
theorem dX6_asides_182 : decode cX6_asides 182 = .ok (.iload_n 2, 1) := by decide +kernel
theorem dX6_asides_183 : decode cX6_asides 183 = .ok (.aload_n 0, 1) := by decide +kernel
theorem dX6_asides_184 : decode cX6_asides 184 = .ok (.aload_n 0, 1) := by decide +kernel
theorem dX6_asides_185 : decode cX6_asides 185 = .ok (.getfield 32, 3) := by decide +kernel
theorem dX6_asides_188 : decode cX6_asides 188 = .ok (.iload_n 2, 1) := by decide +kernel
theorem dX6_asides_189 : decode cX6_asides 189 = .ok (.iaload, 1) := by decide +kernel
theorem dX6_asides_190 : decode cX6_asides 190 = .ok (.invokevirtual 351, 3) := by decide +kernel
theorem dX6_asides_193 : decode cX6_asides 193 = .ok (.iastore, 1) := by decide +kernel
theorem dX6_asides_194 : decode cX6_asides 194 = .ok (.aload_n 0, 1) := by decide +kernel
theorem dX6_asides_195 : decode cX6_asides 195 = .ok (.getfield 35, 3) := by decide +kernel
theorem dX6_asides_198 : decode cX6_asides 198 = .ok (.iload_n 2, 1) := by decide +kernel
theorem dX6_asides_199 : decode cX6_asides 199 = .ok (.aload_n 0, 1) := by decide +kernel
theorem dX6_asides_200 : decode cX6_asides 200 = .ok (.aload_n 0, 1) := by decide +kernel
theorem dX6_asides_201 : decode cX6_asides 201 = .ok (.getfield 35, 3) := by decide +kernel
theorem dX6_asides_204 : decode cX6_asides 204 = .ok (.iload_n 2, 1) := by decide +kernel
theorem dX6_asides_205 : decode cX6_asides 205 = .ok (.iaload, 1) := by decide +kernel
theorem dX6_asides_206 : decode cX6_asides 206 = .ok (.invokevirtual 351, 3) := by decide +kernel
theorem dX6_asides_209 : decode cX6_asides 209 = .ok (.iastore, 1) := by decide +kernel
theorem dX6_asides_210 : decode cX6_asides 210 = .ok (.aload_n 0, 1) := by decide +kernel
theorem dX6_asides_211 : decode cX6_asides 211 = .ok (.getfield 38, 3) := by decide +kernel
theorem dX6_asides_214 : decode cX6_asides 214 = .ok (.iload_n 2, 1) := by decide +kernel
theorem dX6_asides_215 : decode cX6_asides 215 = .ok (.aload_n 0, 1) := by decide +kernel
theorem dX6_asides_216 : decode cX6_asides 216 = .ok (.aload_n 0, 1) := by decide +kernel
theorem dX6_asides_217 : decode cX6_asides 217 = .ok (.getfield 38, 3) := by decide +kernel
theorem dX6_asides_220 : decode cX6_asides 220 = .ok (.iload_n 2, 1) := by decide +kernel
theorem dX6_asides_221 : decode cX6_asides 221 = .ok (.iaload, 1) := by decide +kernel
theorem dX6_asides_222 : decode cX6_asides 222 = .ok (.invokevirtual 351, 3) := by decide +kernel
theorem dX6_asides_225 : decode cX6_asides 225 = .ok (.iastore, 1) := by decide +kernel
theorem dX6_asides_226 : decode cX6_asides 226 = .ok (.aload_n 0, 1) := by decide +kernel
theorem dX6_asides_227 : decode cX6_asides 227 = .ok (.getfield 41, 3) := by decide +kernel
theorem dX6_asides_230 : decode cX6_asides 230 = .ok (.iload_n 2, 1) := by decide +kernel
theorem dX6_asides_231 : decode cX6_asides 231 = .ok (.aload_n 0, 1) := by decide +kernel
theorem dX6_asides_232 : decode cX6_asides 232 = .ok (.aload_n 0, 1) := by decide +kernel
theorem dX6_asides_233 : decode cX6_asides 233 = .ok (.getfield 41, 3) := by decide +kernel
theorem dX6_asides_236 : decode cX6_asides 236 = .ok (.iload_n 2, 1) := by decide +kernel
theorem dX6_asides_237 : decode cX6_asides 237 = .ok (.iaload, 1) := by decide +kernel
theorem dX6_asides_238 : decode cX6_asides 238 = .ok (.invokevirtual 351, 3) := by decide +kernel
theorem dX6_asides_241 : decode cX6_asides 241 = .ok (.iastore, 1) := by decide +kernel
theorem dX6_asides_242 : decode cX6_asides 242 = .ok (.aload_n 0, 1) := by decide +kernel
theorem dX6_asides_243 : decode cX6_asides 243 = .ok (.getfield 44, 3) := by decide +kernel
theorem dX6_asides_246 : decode cX6_asides 246 = .ok (.iload_n 2, 1) := by decide +kernel
theorem dX6_asides_247 : decode cX6_asides 247 = .ok (.aload_n 0, 1) := by decide +kernel
theorem dX6_asides_248 : decode cX6_asides 248 = .ok (.aload_n 0, 1) := by decide +kernel
theorem dX6_asides_249 : decode cX6_asides 249 = .ok (.getfield 44, 3) := by decide +kernel
theorem dX6_asides_252 : decode cX6_asides 252 = .ok (.iload_n 2, 1) := by decide +kernel
theorem dX6_asides_253 : decode cX6_asides 253 = .ok (.iaload, 1) := by decide +kernel
theorem dX6_asides_254 : decode cX6_asides 254 = .ok (.invokevirtual 351, 3) := by decide +kernel
theorem dX6_asides_257 : decode cX6_asides 257 = .ok (.iastore, 1) := by decide +kernel
theorem dX6_asides_258 : decode cX6_asides 258 = .ok (.aload_n 0, 1) := by decide +kernel
theorem dX6_asides_259 : decode cX6_asides 259 = .ok (.getfield 47, 3) := by decide +kernel
theorem dX6_asides_262 : decode cX6_asides 262 = .ok (.iload_n 2, 1) := by decide +kernel
theorem dX6_asides_263 : decode cX6_asides 263 = .ok (.aload_n 0, 1) := by decide +kernel
theorem dX6_asides_264 : decode cX6_asides 264 = .ok (.aload_n 0, 1) := by decide +kernel
theorem dX6_asides_265 : decode cX6_asides 265 = .ok (.getfield 47, 3) := by decide +kernel
theorem dX6_asides_268 : decode cX6_asides 268 = .ok (.iload_n 2, 1) := by decide +kernel
theorem dX6_asides_269 : decode cX6_asides 269 = .ok (.iaload, 1) := by decide +kernel
theorem dX6_asides_270 : decode cX6_asides 270 = .ok (.invokevirtual 351, 3) := by decide +kernel
theorem dX6_asides_273 : decode cX6_asides 273 = .ok (.iastore, 1) := by decide +kernel
theorem dX6_asides_274 : decode cX6_asides 274 = .ok (.aload_n 0, 1) := by decide +kernel
theorem dX6_asides_275 : decode cX6_asides 275 = .ok (.getfield 50, 3) := by decide +kernel
theorem dX6_asides_278 : decode cX6_asides 278 = .ok (.iload_n 2, 1) := by decide +kernel
theorem dX6_asides_279 : decode cX6_asides 279 = .ok (.aload_n 0, 1) := by decide +kernel
theorem dX6_asides_280 : decode cX6_asides 280 = .ok (.aload_n 0, 1) := by decide +kernel
theorem dX6_asides_281 : decode cX6_asides 281 = .ok (.getfield 50, 3) := by decide +kernel
theorem dX6_asides_284 : decode cX6_asides 284 = .ok (.iload_n 2, 1) := by decide +kernel
theorem dX6_asides_285 : decode cX6_asides 285 = .ok (.iaload, 1) := by decide +kernel
theorem dX6_asides_286 : decode cX6_asides 286 = .ok (.invokevirtual 351, 3) := by decide +kernel
theorem dX6_asides_289 : decode cX6_asides 289 = .ok (.iastore, 1) := by decide +kernel
theorem dX6_asides_290 : decode cX6_asides 290 = .ok (.iinc 2 1, 3) := by decide +kernel
theorem dX6_asides_293 : decode cX6_asides 293 = .ok (.goto (-233), 3) := by decide +kernel
theorem dX6_asides_296 : decode cX6_asides 296 = .ok (.return_, 1) := by decide +kernel
theorem dX6_purses_0 : decode cX6_purses 0 = .ok (.iconst 0, 1) := by decide +kernel
theorem dX6_purses_1 : decode cX6_purses 1 = .ok (.istore_n 1, 1) := by decide +kernel
theorem dX6_purses_2 : decode cX6_purses 2 = .ok (.iconst 0, 1) := by decide +kernel
theorem dX6_purses_3 : decode cX6_purses 3 = .ok (.istore_n 2, 1) := by decide +kernel
theorem dX6_purses_4 : decode cX6_purses 4 = .ok (.iload_n 2, 1) := by decide +kernel
theorem dX6_purses_5 : decode cX6_purses 5 = .ok (.aload_n 0, 1) := by decide +kernel
theorem dX6_purses_6 : decode cX6_purses 6 = .ok (.getfield 7, 3) := by decide +kernel
theorem dX6_purses_9 : decode cX6_purses 9 = .ok (.if_icmp .ge 18, 3) := by decide +kernel
theorem dX6_purses_12 : decode cX6_purses 12 = .ok (.iload_n 1, 1) := by decide +kernel
theorem dX6_purses_13 : decode cX6_purses 13 = .ok (.aload_n 0, 1) := by decide +kernel
theorem dX6_purses_14 : decode cX6_purses 14 = .ok (.getfield 26, 3) := by decide +kernel
theorem dX6_purses_17 : decode cX6_purses 17 = .ok (.iload_n 2, 1) := by decide +kernel
theorem dX6_purses_18 : decode cX6_purses 18 = .ok (.iaload, 1) := by decide +kernel
theorem dX6_purses_19 : decode cX6_purses 19 = .ok (.iadd, 1) := by decide +kernel
theorem dX6_purses_20 : decode cX6_purses 20 = .ok (.istore_n 1, 1) := by decide +kernel
theorem dX6_purses_21 : decode cX6_purses 21 = .ok (.iinc 2 1, 3) := by decide +kernel
theorem dX6_purses_24 : decode cX6_purses 24 = .ok (.goto (-20), 3) := by decide +kernel
theorem dX6_purses_27 : decode cX6_purses 27 = .ok (.iload_n 1, 1) := by decide +kernel
theorem dX6_purses_28 : decode cX6_purses 28 = .ok (.ireturn, 1) := by decide +kernel
theorem dX6_caughtAll_0 : decode cX6_caughtAll 0 = .ok (.iconst 0, 1) := by decide +kernel
theorem dX6_caughtAll_1 : decode cX6_caughtAll 1 = .ok (.istore_n 1, 1) := by decide +kernel
theorem dX6_caughtAll_2 : decode cX6_caughtAll 2 = .ok (.iconst 0, 1) := by decide +kernel
theorem dX6_caughtAll_3 : decode cX6_caughtAll 3 = .ok (.istore_n 2, 1) := by decide +kernel
theorem dX6_caughtAll_4 : decode cX6_caughtAll 4 = .ok (.iload_n 2, 1) := by decide +kernel
theorem dX6_caughtAll_5 : decode cX6_caughtAll 5 = .ok (.aload_n 0, 1) := by decide +kernel
theorem dX6_caughtAll_6 : decode cX6_caughtAll 6 = .ok (.getfield 7, 3) := by decide +kernel
theorem dX6_caughtAll_9 : decode cX6_caughtAll 9 = .ok (.if_icmp .ge 18, 3) := by decide +kernel
theorem dX6_caughtAll_12 : decode cX6_caughtAll 12 = .ok (.iload_n 1, 1) := by decide +kernel
theorem dX6_caughtAll_13 : decode cX6_caughtAll 13 = .ok (.aload_n 0, 1) := by decide +kernel
theorem dX6_caughtAll_14 : decode cX6_caughtAll 14 = .ok (.getfield 32, 3) := by decide +kernel
theorem dX6_caughtAll_17 : decode cX6_caughtAll 17 = .ok (.iload_n 2, 1) := by decide +kernel
theorem dX6_caughtAll_18 : decode cX6_caughtAll 18 = .ok (.iaload, 1) := by decide +kernel
theorem dX6_caughtAll_19 : decode cX6_caughtAll 19 = .ok (.iadd, 1) := by decide +kernel
theorem dX6_caughtAll_20 : decode cX6_caughtAll 20 = .ok (.istore_n 1, 1) := by decide +kernel
theorem dX6_caughtAll_21 : decode cX6_caughtAll 21 = .ok (.iinc 2 1, 3) := by decide +kernel
theorem dX6_caughtAll_24 : decode cX6_caughtAll 24 = .ok (.goto (-20), 3) := by decide +kernel
theorem dX6_caughtAll_27 : decode cX6_caughtAll 27 = .ok (.iload_n 1, 1) := by decide +kernel
theorem dX6_caughtAll_28 : decode cX6_caughtAll 28 = .ok (.ireturn, 1) := by decide +kernel
theorem dX6_eatenAll_0 : decode cX6_eatenAll 0 = .ok (.iconst 0, 1) := by decide +kernel
theorem dX6_eatenAll_1 : decode cX6_eatenAll 1 = .ok (.istore_n 1, 1) := by decide +kernel
theorem dX6_eatenAll_2 : decode cX6_eatenAll 2 = .ok (.iconst 0, 1) := by decide +kernel
theorem dX6_eatenAll_3 : decode cX6_eatenAll 3 = .ok (.istore_n 2, 1) := by decide +kernel
theorem dX6_eatenAll_4 : decode cX6_eatenAll 4 = .ok (.iload_n 2, 1) := by decide +kernel
theorem dX6_eatenAll_5 : decode cX6_eatenAll 5 = .ok (.aload_n 0, 1) := by decide +kernel
theorem dX6_eatenAll_6 : decode cX6_eatenAll 6 = .ok (.getfield 7, 3) := by decide +kernel
theorem dX6_eatenAll_9 : decode cX6_eatenAll 9 = .ok (.if_icmp .ge 23, 3) := by decide +kernel
theorem dX6_eatenAll_12 : decode cX6_eatenAll 12 = .ok (.aload_n 0, 1) := by decide +kernel
theorem dX6_eatenAll_13 : decode cX6_eatenAll 13 = .ok (.getfield 35, 3) := by decide +kernel
theorem dX6_eatenAll_16 : decode cX6_eatenAll 16 = .ok (.iload_n 2, 1) := by decide +kernel
theorem dX6_eatenAll_17 : decode cX6_eatenAll 17 = .ok (.iaload, 1) := by decide +kernel
theorem dX6_eatenAll_18 : decode cX6_eatenAll 18 = .ok (.iconst (-1), 1) := by decide +kernel
theorem dX6_eatenAll_19 : decode cX6_eatenAll 19 = .ok (.if_icmp .eq 7, 3) := by decide +kernel
theorem dX6_eatenAll_22 : decode cX6_eatenAll 22 = .ok (.iload_n 1, 1) := by decide +kernel
theorem dX6_eatenAll_23 : decode cX6_eatenAll 23 = .ok (.iconst 1, 1) := by decide +kernel
theorem dX6_eatenAll_24 : decode cX6_eatenAll 24 = .ok (.iadd, 1) := by decide +kernel
theorem dX6_eatenAll_25 : decode cX6_eatenAll 25 = .ok (.istore_n 1, 1) := by decide +kernel
theorem dX6_eatenAll_26 : decode cX6_eatenAll 26 = .ok (.iinc 2 1, 3) := by decide +kernel
theorem dX6_eatenAll_29 : decode cX6_eatenAll 29 = .ok (.goto (-25), 3) := by decide +kernel
theorem dX6_eatenAll_32 : decode cX6_eatenAll 32 = .ok (.iload_n 1, 1) := by decide +kernel
theorem dX6_eatenAll_33 : decode cX6_eatenAll 33 = .ok (.ireturn, 1) := by decide +kernel
set_option maxRecDepth 20000 in
theorem ggX6_thinks_X6_purses : GoodIn wsX6_thinks wsX6_purses := goodIn_r _ [7, 8, 9, 103, 104, 105, 106, 107, 108, 109, 110, 111, 112, 113, 114, 115, 116, 117, 118, 119, 120, 121, 122, 123, 124, 125, 126, 127, 128, 129, 130, 131, 132, 133, 134, 135, 136, 137, 138, 139, 140, 141, 142, 143, 144, 145, 146, 147, 148, 149, 150, 151, 152, 153, 154, 155, 156, 157] (by decide +kernel) (by decide +kernel)
set_option maxRecDepth 20000 in
theorem gX6_thinks_X6_purses : GoodIn wsX6_thinks (wsV RX6 354 RX6 yX6_purses wsX6_purses) := goodIn_app (goodIn_of _ (by decide +kernel)) ggX6_thinks_X6_purses
set_option maxRecDepth 20000 in
theorem ggX6_thinks_X6_caughtAll : GoodIn wsX6_thinks wsX6_caughtAll := goodIn_r _ [13, 8, 14, 103, 104, 105, 106, 107, 108, 109, 110, 111, 112, 113, 114, 115, 116, 117, 118, 119, 120, 121, 122, 123, 124, 125, 126, 127, 128, 129, 130, 131, 132, 133, 134, 135, 136, 137, 138, 139, 140, 141, 142, 143, 144, 145, 146, 147, 148, 149, 150, 151, 152, 153, 154, 155, 156, 157] (by decide +kernel) (by decide +kernel)
set_option maxRecDepth 20000 in
theorem gX6_thinks_X6_caughtAll : GoodIn wsX6_thinks (wsV RX6 357 RX6 yX6_caughtAll wsX6_caughtAll) := goodIn_app (goodIn_of _ (by decide +kernel)) ggX6_thinks_X6_caughtAll
set_option maxRecDepth 20000 in
theorem ggX6_thinks_X6_asides : GoodIn wsX6_thinks wsX6_asides := goodIn_r _ [18, 19, 20, 21, 8, 22, 1, 2, 23, 24, 25, 26, 9, 27, 14, 28, 29, 30, 31, 32, 33, 34, 35, 36, 6, 37, 38, 103, 104, 105, 106, 107, 108, 109, 110, 111, 112, 113, 114, 115, 116, 117, 118, 119, 120, 121, 122, 123, 124, 125, 126, 127, 128, 129, 130, 131, 132, 133, 134, 135, 136, 137, 138, 139, 140, 141, 142, 143, 144, 145, 146, 147, 148, 149, 150, 151, 152, 153, 154, 155, 156, 157] (by decide +kernel) (by decide +kernel)
set_option maxRecDepth 20000 in
theorem gX6_thinks_X6_asides : GoodIn wsX6_thinks (wsV RX6 360 RX6 yX6_asides wsX6_asides) := goodIn_app (goodIn_of _ (by decide +kernel)) ggX6_thinks_X6_asides
set_option maxRecDepth 20000 in
theorem ggX6_thinks_X6_goesBy : GoodIn wsX6_thinks wsX6_goesBy := goodIn_r _ [42, 8, 43, 44, 2, 9, 23, 26, 27, 28, 22, 45, 46, 47, 6, 48, 49, 25, 29, 24, 50, 51, 52, 53, 54, 55, 56, 57, 58, 59, 60, 61, 62, 63, 64, 65, 66, 67, 68, 69, 70, 71, 72, 73, 74, 75, 76, 77, 78, 79, 80, 81, 82, 83, 84, 85, 86, 87, 88, 14, 31, 32, 30, 1, 89, 90, 91, 92, 93, 94, 95, 96, 97, 21, 98, 103, 104, 105, 106, 107, 108, 109, 110, 111, 112, 113, 114, 115, 116, 117, 118, 119, 120, 121, 122, 123, 124, 125, 126, 127, 128, 129, 130, 131, 132, 133, 134, 135, 136, 137, 138, 139, 140, 141, 142, 143, 144, 145, 146, 147, 148, 149, 150, 151, 152, 153, 154, 155, 156, 157] (by decide +kernel) (by decide +kernel)
set_option maxRecDepth 20000 in
theorem gX6_thinks_X6_goesBy : GoodIn wsX6_thinks (wsV RX6 273 RX6 yX6_goesBy wsX6_goesBy) := goodIn_app (goodIn_of _ (by decide +kernel)) ggX6_thinks_X6_goesBy
set_option maxRecDepth 20000 in
theorem ggX6_thinks_X6_eatenAll : GoodIn wsX6_thinks wsX6_eatenAll := goodIn_r _ [102, 8, 28, 103, 104, 105, 106, 107, 108, 109, 110, 111, 112, 113, 114, 115, 116, 117, 118, 119, 120, 121, 122, 123, 124, 125, 126, 127, 128, 129, 130, 131, 132, 133, 134, 135, 136, 137, 138, 139, 140, 141, 142, 143, 144, 145, 146, 147, 148, 149, 150, 151, 152, 153, 154, 155, 156, 157] (by decide +kernel) (by decide +kernel)
set_option maxRecDepth 20000 in
theorem gX6_thinks_X6_eatenAll : GoodIn wsX6_thinks (wsV RX6 364 RX6 yX6_eatenAll wsX6_eatenAll) := goodIn_app (goodIn_of _ (by decide +kernel)) ggX6_thinks_X6_eatenAll
theorem dX6_thinks_0 : decode cX6_thinks 0 = .ok (.iload_n 3, 1) := by decide +kernel
theorem dX6_thinks_1 : decode cX6_thinks 1 = .ok (.ifCond .ne 10, 3) := by decide +kernel
theorem dX6_thinks_4 : decode cX6_thinks 4 = .ok (.aload_n 0, 1) := by decide +kernel
theorem dX6_thinks_5 : decode cX6_thinks 5 = .ok (.invokevirtual 354, 3) := by decide +kernel
theorem dX6_thinks_8 : decode cX6_thinks 8 = .ok (.goto 28, 3) := by decide +kernel
theorem dX6_thinks_11 : decode cX6_thinks 11 = .ok (.iload_n 3, 1) := by decide +kernel
theorem dX6_thinks_12 : decode cX6_thinks 12 = .ok (.iconst 1, 1) := by decide +kernel
theorem dX6_thinks_13 : decode cX6_thinks 13 = .ok (.if_icmp .ne 10, 3) := by decide +kernel
theorem dX6_thinks_16 : decode cX6_thinks 16 = .ok (.aload_n 0, 1) := by decide +kernel
theorem dX6_thinks_17 : decode cX6_thinks 17 = .ok (.getfield 263, 3) := by decide +kernel
theorem dX6_thinks_20 : decode cX6_thinks 20 = .ok (.goto 16, 3) := by decide +kernel
theorem dX6_thinks_23 : decode cX6_thinks 23 = .ok (.iload_n 3, 1) := by decide +kernel
theorem dX6_thinks_24 : decode cX6_thinks 24 = .ok (.iconst 2, 1) := by decide +kernel
theorem dX6_thinks_25 : decode cX6_thinks 25 = .ok (.if_icmp .ne 10, 3) := by decide +kernel
theorem dX6_thinks_28 : decode cX6_thinks 28 = .ok (.aload_n 0, 1) := by decide +kernel
theorem dX6_thinks_29 : decode cX6_thinks 29 = .ok (.invokevirtual 357, 3) := by decide +kernel
theorem dX6_thinks_32 : decode cX6_thinks 32 = .ok (.goto 4, 3) := by decide +kernel
theorem dX6_thinks_35 : decode cX6_thinks 35 = .ok (.iconst 0, 1) := by decide +kernel
theorem dX6_thinks_36 : decode cX6_thinks 36 = .ok (.istore 4, 2) := by decide +kernel
theorem dX6_thinks_38 : decode cX6_thinks 38 = .ok (.aload_n 0, 1) := by decide +kernel
theorem dX6_thinks_39 : decode cX6_thinks 39 = .ok (.iconst 1, 1) := by decide +kernel
theorem dX6_thinks_40 : decode cX6_thinks 40 = .ok (.invokevirtual 360, 3) := by decide +kernel
theorem dX6_thinks_43 : decode cX6_thinks 43 = .ok (.aload_n 0, 1) := by decide +kernel
theorem dX6_thinks_44 : decode cX6_thinks 44 = .ok (.getfield 53, 3) := by decide +kernel
theorem dX6_thinks_47 : decode cX6_thinks 47 = .ok (.bipush 9, 2) := by decide +kernel
theorem dX6_thinks_49 : decode cX6_thinks 49 = .ok (.iload_n 2, 1) := by decide +kernel
theorem dX6_thinks_50 : decode cX6_thinks 50 = .ok (.iastore, 1) := by decide +kernel
theorem dX6_thinks_51 : decode cX6_thinks 51 = .ok (.iconst 0, 1) := by decide +kernel
theorem dX6_thinks_52 : decode cX6_thinks 52 = .ok (.istore 5, 2) := by decide +kernel
theorem dX6_thinks_54 : decode cX6_thinks 54 = .ok (.iload 5, 2) := by decide +kernel
theorem dX6_thinks_56 : decode cX6_thinks 56 = .ok (.iload_n 1, 1) := by decide +kernel
theorem dX6_thinks_57 : decode cX6_thinks 57 = .ok (.if_icmp .ge 13, 3) := by decide +kernel
theorem dX6_thinks_60 : decode cX6_thinks 60 = .ok (.aload_n 0, 1) := by decide +kernel
theorem dX6_thinks_61 : decode cX6_thinks 61 = .ok (.invokevirtual 273, 3) := by decide +kernel
theorem dX6_thinks_64 : decode cX6_thinks 64 = .ok (.iinc 5 1, 3) := by decide +kernel
theorem dX6_thinks_67 : decode cX6_thinks 67 = .ok (.goto (-13), 3) := by decide +kernel
theorem dX6_thinks_70 : decode cX6_thinks 70 = .ok (.iload_n 3, 1) := by decide +kernel
theorem dX6_thinks_71 : decode cX6_thinks 71 = .ok (.ifCond .ne 10, 3) := by decide +kernel
theorem dX6_thinks_74 : decode cX6_thinks 74 = .ok (.aload_n 0, 1) := by decide +kernel
theorem dX6_thinks_75 : decode cX6_thinks 75 = .ok (.invokevirtual 354, 3) := by decide +kernel
theorem dX6_thinks_78 : decode cX6_thinks 78 = .ok (.goto 31, 3) := by decide +kernel
theorem dX6_thinks_81 : decode cX6_thinks 81 = .ok (.iload_n 3, 1) := by decide +kernel
theorem dX6_thinks_82 : decode cX6_thinks 82 = .ok (.iconst 1, 1) := by decide +kernel
theorem dX6_thinks_83 : decode cX6_thinks 83 = .ok (.if_icmp .ne 10, 3) := by decide +kernel
theorem dX6_thinks_86 : decode cX6_thinks 86 = .ok (.aload_n 0, 1) := by decide +kernel
theorem dX6_thinks_87 : decode cX6_thinks 87 = .ok (.getfield 263, 3) := by decide +kernel
theorem dX6_thinks_90 : decode cX6_thinks 90 = .ok (.goto 19, 3) := by decide +kernel
theorem dX6_thinks_93 : decode cX6_thinks 93 = .ok (.iload_n 3, 1) := by decide +kernel
theorem dX6_thinks_94 : decode cX6_thinks 94 = .ok (.iconst 2, 1) := by decide +kernel
theorem dX6_thinks_95 : decode cX6_thinks 95 = .ok (.if_icmp .ne 10, 3) := by decide +kernel
theorem dX6_thinks_98 : decode cX6_thinks 98 = .ok (.aload_n 0, 1) := by decide +kernel
theorem dX6_thinks_99 : decode cX6_thinks 99 = .ok (.invokevirtual 357, 3) := by decide +kernel
theorem dX6_thinks_102 : decode cX6_thinks 102 = .ok (.goto 7, 3) := by decide +kernel
theorem dX6_thinks_105 : decode cX6_thinks 105 = .ok (.aload_n 0, 1) := by decide +kernel
theorem dX6_thinks_106 : decode cX6_thinks 106 = .ok (.invokevirtual 364, 3) := by decide +kernel
theorem dX6_thinks_109 : decode cX6_thinks 109 = .ok (.istore 5, 2) := by decide +kernel
theorem dX6_thinks_111 : decode cX6_thinks 111 = .ok (.aload_n 0, 1) := by decide +kernel
theorem dX6_thinks_112 : decode cX6_thinks 112 = .ok (.iconst 0, 1) := by decide +kernel
theorem dX6_thinks_113 : decode cX6_thinks 113 = .ok (.invokevirtual 360, 3) := by decide +kernel
theorem dX6_thinks_116 : decode cX6_thinks 116 = .ok (.iload 5, 2) := by decide +kernel
theorem dX6_thinks_118 : decode cX6_thinks 118 = .ok (.iload 4, 2) := by decide +kernel
theorem dX6_thinks_120 : decode cX6_thinks 120 = .ok (.isub, 1) := by decide +kernel
theorem dX6_thinks_121 : decode cX6_thinks 121 = .ok (.ireturn, 1) := by decide +kernel
set_option maxRecDepth 20000 in
theorem ggX6_feet_X6_isIn : GoodIn wsX6_feet wsX6_isIn := goodIn_r _ [6] (by decide +kernel) (by decide +kernel)
set_option maxRecDepth 20000 in
theorem gX6_feet_X6_isIn : GoodIn wsX6_feet (wsV RX6 129 RX6 yX6_isIn wsX6_isIn) := goodIn_app (goodIn_of _ (by decide +kernel)) ggX6_feet_X6_isIn
set_option maxRecDepth 20000 in
theorem ggX6_feet_X6_thinks : GoodIn wsX6_feet wsX6_thinks := goodIn_r _ [10, 11, 12, 13, 14, 15, 5, 16, 17, 18, 19, 20, 21, 22, 23, 24, 25, 26, 27, 28, 29, 30, 31, 32, 33, 34, 35, 36, 37, 38, 39, 40, 41, 42, 43, 44, 45, 46, 47, 48, 49, 50, 51, 52, 53, 54, 55, 56, 57, 58, 59, 60, 61, 62, 63, 64, 65, 66, 67, 68, 69, 70, 71, 72, 73, 74, 75, 76, 77, 78, 79, 80, 81, 82, 83, 84, 85, 86, 87, 88, 89, 90, 91, 92, 93, 94, 95, 96, 97, 98, 99, 100, 101, 102, 103, 104, 105, 106, 107, 108, 109, 110, 111, 112, 113, 114, 115, 116, 117, 118, 119, 120, 121, 122, 123, 124, 125, 126, 127, 128, 129, 130, 131, 132, 133, 134, 135, 136, 137, 138, 139, 140, 141, 142, 143, 144, 145, 146, 147, 148, 149, 150, 151, 152, 153, 154, 155, 156, 157, 158, 159, 160, 161, 162, 163, 164, 165, 166] (by decide +kernel) (by decide +kernel)
set_option maxRecDepth 20000 in
theorem gX6_feet_X6_thinks : GoodIn wsX6_feet (wsV RX6 367 RX6 yX6_thinks wsX6_thinks) := goodIn_app (goodIn_of _ (by decide +kernel)) ggX6_feet_X6_thinks
theorem dX6_feet_0 : decode cX6_feet 0 = .ok (.aload_n 0, 1) := by decide +kernel
theorem dX6_feet_1 : decode cX6_feet 1 = .ok (.iconst 0, 1) := by decide +kernel
theorem dX6_feet_2 : decode cX6_feet 2 = .ok (.putfield 121, 3) := by decide +kernel
theorem dX6_feet_5 : decode cX6_feet 5 = .ok (.aload_n 0, 1) := by decide +kernel
theorem dX6_feet_6 : decode cX6_feet 6 = .ok (.iload_n 1, 1) := by decide +kernel
theorem dX6_feet_7 : decode cX6_feet 7 = .ok (.iconst 1, 1) := by decide +kernel
theorem dX6_feet_8 : decode cX6_feet 8 = .ok (.bipush 60, 2) := by decide +kernel
theorem dX6_feet_10 : decode cX6_feet 10 = .ok (.invokevirtual 129, 3) := by decide +kernel
theorem dX6_feet_13 : decode cX6_feet 13 = .ok (.ifCond .ne 5, 3) := by decide +kernel
theorem dX6_feet_16 : decode cX6_feet 16 = .ok (.iconst (-1), 1) := by decide +kernel
theorem dX6_feet_17 : decode cX6_feet 17 = .ok (.ireturn, 1) := by decide +kernel
theorem dX6_feet_18 : decode cX6_feet 18 = .ok (.iconst 0, 1) := by decide +kernel
theorem dX6_feet_19 : decode cX6_feet 19 = .ok (.istore_n 2, 1) := by decide +kernel
theorem dX6_feet_20 : decode cX6_feet 20 = .ok (.aload_n 0, 1) := by decide +kernel
theorem dX6_feet_21 : decode cX6_feet 21 = .ok (.iload_n 1, 1) := by decide +kernel
theorem dX6_feet_22 : decode cX6_feet 22 = .ok (.iconst 0, 1) := by decide +kernel
theorem dX6_feet_23 : decode cX6_feet 23 = .ok (.iconst 0, 1) := by decide +kernel
theorem dX6_feet_24 : decode cX6_feet 24 = .ok (.invokevirtual 367, 3) := by decide +kernel
theorem dX6_feet_27 : decode cX6_feet 27 = .ok (.istore_n 3, 1) := by decide +kernel
theorem dX6_feet_28 : decode cX6_feet 28 = .ok (.iconst 1, 1) := by decide +kernel
theorem dX6_feet_29 : decode cX6_feet 29 = .ok (.istore 4, 2) := by decide +kernel
theorem dX6_feet_31 : decode cX6_feet 31 = .ok (.iload 4, 2) := by decide +kernel
theorem dX6_feet_33 : decode cX6_feet 33 = .ok (.iconst 5, 1) := by decide +kernel
theorem dX6_feet_34 : decode cX6_feet 34 = .ok (.if_icmp .gt 34, 3) := by decide +kernel
theorem dX6_feet_37 : decode cX6_feet 37 = .ok (.aload_n 0, 1) := by decide +kernel
theorem dX6_feet_38 : decode cX6_feet 38 = .ok (.iload_n 1, 1) := by decide +kernel
theorem dX6_feet_39 : decode cX6_feet 39 = .ok (.iload 4, 2) := by decide +kernel
theorem dX6_feet_41 : decode cX6_feet 41 = .ok (.iconst 0, 1) := by decide +kernel
theorem dX6_feet_42 : decode cX6_feet 42 = .ok (.invokevirtual 367, 3) := by decide +kernel
theorem dX6_feet_45 : decode cX6_feet 45 = .ok (.istore 5, 2) := by decide +kernel
theorem dX6_feet_47 : decode cX6_feet 47 = .ok (.iload 5, 2) := by decide +kernel
theorem dX6_feet_49 : decode cX6_feet 49 = .ok (.iload_n 3, 1) := by decide +kernel
theorem dX6_feet_50 : decode cX6_feet 50 = .ok (.if_icmp .gt 6, 3) := by decide +kernel
theorem dX6_feet_53 : decode cX6_feet 53 = .ok (.goto 9, 3) := by decide +kernel
theorem dX6_feet_56 : decode cX6_feet 56 = .ok (.iload 4, 2) := by decide +kernel
theorem dX6_feet_58 : decode cX6_feet 58 = .ok (.istore_n 2, 1) := by decide +kernel
theorem dX6_feet_59 : decode cX6_feet 59 = .ok (.iload 5, 2) := by decide +kernel
theorem dX6_feet_61 : decode cX6_feet 61 = .ok (.istore_n 3, 1) := by decide +kernel
theorem dX6_feet_62 : decode cX6_feet 62 = .ok (.iinc 4 1, 3) := by decide +kernel
theorem dX6_feet_65 : decode cX6_feet 65 = .ok (.goto (-34), 3) := by decide +kernel
theorem dX6_feet_68 : decode cX6_feet 68 = .ok (.iload_n 2, 1) := by decide +kernel
theorem dX6_feet_69 : decode cX6_feet 69 = .ok (.ireturn, 1) := by decide +kernel
set_option maxRecDepth 20000 in
theorem ggX6_thought_X6_isIn : GoodIn wsX6_thought wsX6_isIn := goodIn_r _ [8] (by decide +kernel) (by decide +kernel)
set_option maxRecDepth 20000 in
theorem gX6_thought_X6_isIn : GoodIn wsX6_thought (wsV RX6 129 RX6 yX6_isIn wsX6_isIn) := goodIn_app (goodIn_of _ (by decide +kernel)) ggX6_thought_X6_isIn
set_option maxRecDepth 20000 in
theorem ggX6_thought_X6_thinks : GoodIn wsX6_thought wsX6_thinks := goodIn_r _ [12, 13, 2, 14, 15, 16, 7, 17, 18, 19, 20, 21, 22, 23, 24, 25, 26, 27, 28, 29, 30, 31, 32, 33, 34, 35, 36, 37, 38, 39, 40, 41, 42, 43, 44, 45, 46, 47, 48, 49, 50, 51, 52, 53, 54, 55, 56, 57, 58, 59, 60, 61, 62, 63, 64, 65, 66, 67, 68, 69, 70, 71, 72, 73, 74, 75, 76, 77, 78, 79, 80, 81, 82, 83, 84, 85, 86, 87, 88, 89, 90, 91, 92, 93, 94, 95, 96, 97, 98, 99, 100, 101, 102, 103, 104, 105, 106, 107, 108, 109, 110, 111, 112, 113, 114, 115, 116, 117, 118, 119, 120, 121, 122, 123, 124, 125, 126, 127, 128, 129, 130, 131, 132, 133, 134, 135, 136, 137, 138, 139, 140, 141, 142, 143, 144, 145, 146, 147, 148, 149, 150, 151, 152, 153, 154, 155, 156, 157, 158, 159, 160, 161, 162, 163, 164, 165, 166, 167] (by decide +kernel) (by decide +kernel)
set_option maxRecDepth 20000 in
theorem gX6_thought_X6_thinks : GoodIn wsX6_thought (wsV RX6 367 RX6 yX6_thinks wsX6_thinks) := goodIn_app (goodIn_of _ (by decide +kernel)) ggX6_thought_X6_thinks
theorem dX6_thought_0 : decode cX6_thought 0 = .ok (.aload_n 0, 1) := by decide +kernel
theorem dX6_thought_1 : decode cX6_thought 1 = .ok (.iconst 0, 1) := by decide +kernel
theorem dX6_thought_2 : decode cX6_thought 2 = .ok (.putfield 121, 3) := by decide +kernel
theorem dX6_thought_5 : decode cX6_thought 5 = .ok (.aload_n 0, 1) := by decide +kernel
theorem dX6_thought_6 : decode cX6_thought 6 = .ok (.iload_n 1, 1) := by decide +kernel
theorem dX6_thought_7 : decode cX6_thought 7 = .ok (.iconst 1, 1) := by decide +kernel
theorem dX6_thought_8 : decode cX6_thought 8 = .ok (.bipush 60, 2) := by decide +kernel
theorem dX6_thought_10 : decode cX6_thought 10 = .ok (.invokevirtual 129, 3) := by decide +kernel
theorem dX6_thought_13 : decode cX6_thought 13 = .ok (.ifCond .eq 29, 3) := by decide +kernel
theorem dX6_thought_16 : decode cX6_thought 16 = .ok (.aload_n 0, 1) := by decide +kernel
theorem dX6_thought_17 : decode cX6_thought 17 = .ok (.iload_n 2, 1) := by decide +kernel
theorem dX6_thought_18 : decode cX6_thought 18 = .ok (.iconst 0, 1) := by decide +kernel
theorem dX6_thought_19 : decode cX6_thought 19 = .ok (.iconst 3, 1) := by decide +kernel
theorem dX6_thought_20 : decode cX6_thought 20 = .ok (.invokevirtual 129, 3) := by decide +kernel
theorem dX6_thought_23 : decode cX6_thought 23 = .ok (.ifCond .eq 19, 3) := by decide +kernel
theorem dX6_thought_26 : decode cX6_thought 26 = .ok (.aload_n 0, 1) := by decide +kernel
theorem dX6_thought_27 : decode cX6_thought 27 = .ok (.iload_n 1, 1) := by decide +kernel
theorem dX6_thought_28 : decode cX6_thought 28 = .ok (.aload_n 0, 1) := by decide +kernel
theorem dX6_thought_29 : decode cX6_thought 29 = .ok (.getfield 53, 3) := by decide +kernel
theorem dX6_thought_32 : decode cX6_thought 32 = .ok (.bipush 9, 2) := by decide +kernel
theorem dX6_thought_34 : decode cX6_thought 34 = .ok (.iaload, 1) := by decide +kernel
theorem dX6_thought_35 : decode cX6_thought 35 = .ok (.iload_n 2, 1) := by decide +kernel
theorem dX6_thought_36 : decode cX6_thought 36 = .ok (.invokevirtual 367, 3) := by decide +kernel
theorem dX6_thought_39 : decode cX6_thought 39 = .ok (.goto 6, 3) := by decide +kernel
theorem dX6_thought_42 : decode cX6_thought 42 = .ok (.ldc_w 276, 3) := by decide +kernel
theorem dX6_thought_45 : decode cX6_thought 45 = .ok (.ireturn, 1) := by decide +kernel
theorem dX6_keptText_0 : decode cX6_keptText 0 = .ok (.aload_n 0, 1) := by decide +kernel
theorem dX6_keptText_1 : decode cX6_keptText 1 = .ok (.aload_n 0, 1) := by decide +kernel
theorem dX6_keptText_2 : decode cX6_keptText 2 = .ok (.getfield 370, 3) := by decide +kernel
theorem dX6_keptText_5 : decode cX6_keptText 5 = .ok (.iconst 1, 1) := by decide +kernel
theorem dX6_keptText_6 : decode cX6_keptText 6 = .ok (.iadd, 1) := by decide +kernel
theorem dX6_keptText_7 : decode cX6_keptText 7 = .ok (.putfield 370, 3) := by decide +kernel
theorem dX6_keptText_10 : decode cX6_keptText 10 = .ok (.aload_n 0, 1) := by decide +kernel
theorem dX6_keptText_11 : decode cX6_keptText 11 = .ok (.getfield 347, 3) := by decide +kernel
theorem dX6_keptText_14 : decode cX6_keptText 14 = .ok (.ifCond .ne 15, 3) := by decide +kernel
theorem dX6_keptText_17 : decode cX6_keptText 17 = .ok (.aload_n 0, 1) := by decide +kernel
theorem dX6_keptText_18 : decode cX6_keptText 18 = .ok (.getfield 118, 3) := by decide +kernel
theorem dX6_keptText_21 : decode cX6_keptText 21 = .ok (.aload_n 0, 1) := by decide +kernel
theorem dX6_keptText_22 : decode cX6_keptText 22 = .ok (.getfield 370, 3) := by decide +kernel
theorem dX6_keptText_25 : decode cX6_keptText 25 = .ok (.iconst 1, 1) := by decide +kernel
theorem dX6_keptText_26 : decode cX6_keptText 26 = .ok (.isub, 1) := by decide +kernel
theorem dX6_keptText_27 : decode cX6_keptText 27 = .ok (.iaload, 1) := by decide +kernel
theorem dX6_keptText_28 : decode cX6_keptText 28 = .ok (.ireturn, 1) := by decide +kernel
theorem dX6_keptText_29 : decode cX6_keptText 29 = .ok (.aload_n 0, 1) := by decide +kernel
theorem dX6_keptText_30 : decode cX6_keptText 30 = .ok (.getfield 118, 3) := by decide +kernel
theorem dX6_keptText_33 : decode cX6_keptText 33 = .ok (.aload_n 0, 1) := by decide +kernel
theorem dX6_keptText_34 : decode cX6_keptText 34 = .ok (.getfield 370, 3) := by decide +kernel
theorem dX6_keptText_37 : decode cX6_keptText 37 = .ok (.iconst 1, 1) := by decide +kernel
theorem dX6_keptText_38 : decode cX6_keptText 38 = .ok (.isub, 1) := by decide +kernel
theorem dX6_keptText_39 : decode cX6_keptText 39 = .ok (.iload_n 1, 1) := by decide +kernel
theorem dX6_keptText_40 : decode cX6_keptText 40 = .ok (.iastore, 1) := by decide +kernel
theorem dX6_keptText_41 : decode cX6_keptText 41 = .ok (.iload_n 1, 1) := by decide +kernel
theorem dX6_keptText_42 : decode cX6_keptText 42 = .ok (.ireturn, 1) := by decide +kernel
set_option maxRecDepth 20000 in
theorem ggX6_image_X6_asides : GoodIn wsX6_image wsX6_asides := goodIn_r _ [16, 17, 18, 19, 20, 21, 22, 23, 24, 25, 26, 27, 28, 29, 30, 31, 32, 33, 34, 35, 36, 37, 38, 39, 15, 40, 3, 46, 47, 48, 49, 50, 51, 52, 53, 54, 55, 56, 57, 58, 59, 60, 61, 62, 63, 64, 65, 66, 67, 68, 69, 70, 71, 72, 73, 74, 75, 76, 77, 78, 79, 80, 81, 82, 83, 84, 85, 86, 87, 88, 89, 90, 91, 92, 93, 94, 95, 96, 97, 98, 99, 100] (by decide +kernel) (by decide +kernel)
set_option maxRecDepth 20000 in
theorem gX6_image_X6_asides : GoodIn wsX6_image (wsV RX6 360 RX6 yX6_asides wsX6_asides) := goodIn_app (goodIn_of _ (by decide +kernel)) ggX6_image_X6_asides
set_option maxRecDepth 20000 in
theorem ggX6_image_X6_keptText : GoodIn wsX6_image wsX6_keptText := goodIn_r _ [44, 5, 17, 45, 46, 47, 48, 49, 50, 51, 52, 53, 54, 55, 56, 57, 58, 59, 60, 61, 62, 63, 64, 65, 66, 67, 68, 69, 70, 71, 72, 73, 74, 75, 76, 77, 78, 79, 80, 81, 82, 83, 84, 85, 86, 87, 88, 89, 90, 91, 92, 93, 94, 95, 96, 97, 98, 99, 100] (by decide +kernel) (by decide +kernel)
set_option maxRecDepth 20000 in
theorem gX6_image_X6_keptText : GoodIn wsX6_image (wsV RX6 376 RX6 yX6_keptText wsX6_keptText) := goodIn_app (goodIn_of _ (by decide +kernel)) ggX6_image_X6_keptText
theorem dX6_image_0 : decode cX6_image 0 = .ok (.aload_n 0, 1) := by decide +kernel
theorem dX6_image_1 : decode cX6_image 1 = .ok (.iconst 0, 1) := by decide +kernel
theorem dX6_image_2 : decode cX6_image 2 = .ok (.putfield 121, 3) := by decide +kernel
theorem dX6_image_5 : decode cX6_image 5 = .ok (.iload_n 1, 1) := by decide +kernel
theorem dX6_image_6 : decode cX6_image 6 = .ok (.ifCond .ne 12, 3) := by decide +kernel
theorem dX6_image_9 : decode cX6_image 9 = .ok (.aload_n 0, 1) := by decide +kernel
theorem dX6_image_10 : decode cX6_image 10 = .ok (.getfield 373, 3) := by decide +kernel
theorem dX6_image_13 : decode cX6_image 13 = .ok (.ifCond .ne 5, 3) := by decide +kernel
theorem dX6_image_16 : decode cX6_image 16 = .ok (.iconst 0, 1) := by decide +kernel
theorem dX6_image_17 : decode cX6_image 17 = .ok (.ireturn, 1) := by decide +kernel
theorem dX6_image_18 : decode cX6_image 18 = .ok (.aload_n 0, 1) := by decide +kernel
theorem dX6_image_19 : decode cX6_image 19 = .ok (.iconst 1, 1) := by decide +kernel
theorem dX6_image_20 : decode cX6_image 20 = .ok (.putfield 373, 3) := by decide +kernel
theorem dX6_image_23 : decode cX6_image 23 = .ok (.iload_n 1, 1) := by decide +kernel
theorem dX6_image_24 : decode cX6_image 24 = .ok (.ifCond .ne 30, 3) := by decide +kernel
theorem dX6_image_27 : decode cX6_image 27 = .ok (.iconst 0, 1) := by decide +kernel
theorem dX6_image_28 : decode cX6_image 28 = .ok (.istore_n 2, 1) := by decide +kernel
theorem dX6_image_29 : decode cX6_image 29 = .ok (.iload_n 2, 1) := by decide +kernel
theorem dX6_image_30 : decode cX6_image 30 = .ok (.sipush 160, 3) := by decide +kernel
theorem dX6_image_33 : decode cX6_image 33 = .ok (.if_icmp .ge 21, 3) := by decide +kernel
theorem dX6_image_36 : decode cX6_image 36 = .ok (.aload_n 0, 1) := by decide +kernel
theorem dX6_image_37 : decode cX6_image 37 = .ok (.getfield 112, 3) := by decide +kernel
theorem dX6_image_40 : decode cX6_image 40 = .ok (.iload_n 2, 1) := by decide +kernel
theorem dX6_image_41 : decode cX6_image 41 = .ok (.aload_n 0, 1) := by decide +kernel
theorem dX6_image_42 : decode cX6_image 42 = .ok (.getfield 115, 3) := by decide +kernel
theorem dX6_image_45 : decode cX6_image 45 = .ok (.iload_n 2, 1) := by decide +kernel
theorem dX6_image_46 : decode cX6_image 46 = .ok (.iaload, 1) := by decide +kernel
theorem dX6_image_47 : decode cX6_image 47 = .ok (.iastore, 1) := by decide +kernel
theorem dX6_image_48 : decode cX6_image 48 = .ok (.iinc 2 1, 3) := by decide +kernel
theorem dX6_image_51 : decode cX6_image 51 = .ok (.goto (-22), 3) := by decide +kernel
theorem dX6_image_54 : decode cX6_image 54 = .ok (.aload_n 0, 1) := by decide +kernel
theorem dX6_image_55 : decode cX6_image 55 = .ok (.iload_n 1, 1) := by decide +kernel
theorem dX6_image_56 : decode cX6_image 56 = .ok (.invokevirtual 360, 3) := by decide +kernel
theorem dX6_image_59 : decode cX6_image 59 = .ok (.iload_n 1, 1) := by decide +kernel
theorem dX6_image_60 : decode cX6_image 60 = .ok (.ifCond .eq 30, 3) := by decide +kernel
theorem dX6_image_63 : decode cX6_image 63 = .ok (.iconst 0, 1) := by decide +kernel
theorem dX6_image_64 : decode cX6_image 64 = .ok (.istore_n 2, 1) := by decide +kernel
theorem dX6_image_65 : decode cX6_image 65 = .ok (.iload_n 2, 1) := by decide +kernel
theorem dX6_image_66 : decode cX6_image 66 = .ok (.sipush 160, 3) := by decide +kernel
theorem dX6_image_69 : decode cX6_image 69 = .ok (.if_icmp .ge 21, 3) := by decide +kernel
theorem dX6_image_72 : decode cX6_image 72 = .ok (.aload_n 0, 1) := by decide +kernel
theorem dX6_image_73 : decode cX6_image 73 = .ok (.getfield 115, 3) := by decide +kernel
theorem dX6_image_76 : decode cX6_image 76 = .ok (.iload_n 2, 1) := by decide +kernel
theorem dX6_image_77 : decode cX6_image 77 = .ok (.aload_n 0, 1) := by decide +kernel
theorem dX6_image_78 : decode cX6_image 78 = .ok (.getfield 112, 3) := by decide +kernel
theorem dX6_image_81 : decode cX6_image 81 = .ok (.iload_n 2, 1) := by decide +kernel
theorem dX6_image_82 : decode cX6_image 82 = .ok (.iaload, 1) := by decide +kernel
theorem dX6_image_83 : decode cX6_image 83 = .ok (.iastore, 1) := by decide +kernel
theorem dX6_image_84 : decode cX6_image 84 = .ok (.iinc 2 1, 3) := by decide +kernel
theorem dX6_image_87 : decode cX6_image 87 = .ok (.goto (-22), 3) := by decide +kernel
theorem dX6_image_90 : decode cX6_image 90 = .ok (.aload_n 0, 1) := by decide +kernel
theorem dX6_image_91 : decode cX6_image 91 = .ok (.iconst 0, 1) := by decide +kernel
theorem dX6_image_92 : decode cX6_image 92 = .ok (.putfield 370, 3) := by decide +kernel
theorem dX6_image_95 : decode cX6_image 95 = .ok (.iconst 0, 1) := by decide +kernel
theorem dX6_image_96 : decode cX6_image 96 = .ok (.istore_n 2, 1) := by decide +kernel
theorem dX6_image_97 : decode cX6_image 97 = .ok (.iload_n 2, 1) := by decide +kernel
theorem dX6_image_98 : decode cX6_image 98 = .ok (.iconst 4, 1) := by decide +kernel
theorem dX6_image_99 : decode cX6_image 99 = .ok (.if_icmp .ge 25, 3) := by decide +kernel
theorem dX6_image_102 : decode cX6_image 102 = .ok (.aload_n 0, 1) := by decide +kernel
theorem dX6_image_103 : decode cX6_image 103 = .ok (.getfield 62, 3) := by decide +kernel
theorem dX6_image_106 : decode cX6_image 106 = .ok (.iload_n 2, 1) := by decide +kernel
theorem dX6_image_107 : decode cX6_image 107 = .ok (.aload_n 0, 1) := by decide +kernel
theorem dX6_image_108 : decode cX6_image 108 = .ok (.aload_n 0, 1) := by decide +kernel
theorem dX6_image_109 : decode cX6_image 109 = .ok (.getfield 62, 3) := by decide +kernel
theorem dX6_image_112 : decode cX6_image 112 = .ok (.iload_n 2, 1) := by decide +kernel
theorem dX6_image_113 : decode cX6_image 113 = .ok (.iaload, 1) := by decide +kernel
theorem dX6_image_114 : decode cX6_image 114 = .ok (.invokevirtual 376, 3) := by decide +kernel
theorem dX6_image_117 : decode cX6_image 117 = .ok (.iastore, 1) := by decide +kernel
theorem dX6_image_118 : decode cX6_image 118 = .ok (.iinc 2 1, 3) := by decide +kernel
theorem dX6_image_121 : decode cX6_image 121 = .ok (.goto (-24), 3) := by decide +kernel
theorem dX6_image_124 : decode cX6_image 124 = .ok (.iconst 0, 1) := by decide +kernel
theorem dX6_image_125 : decode cX6_image 125 = .ok (.istore_n 2, 1) := by decide +kernel
theorem dX6_image_126 : decode cX6_image 126 = .ok (.iload_n 2, 1) := by decide +kernel
theorem dX6_image_127 : decode cX6_image 127 = .ok (.bipush 64, 2) := by decide +kernel
theorem dX6_image_129 : decode cX6_image 129 = .ok (.if_icmp .ge 57, 3) := by decide +kernel
theorem dX6_image_132 : decode cX6_image 132 = .ok (.aload_n 0, 1) := by decide +kernel
theorem dX6_image_133 : decode cX6_image 133 = .ok (.getfield 65, 3) := by decide +kernel
theorem dX6_image_136 : decode cX6_image 136 = .ok (.iload_n 2, 1) := by decide +kernel
theorem dX6_image_137 : decode cX6_image 137 = .ok (.aload_n 0, 1) := by decide +kernel
theorem dX6_image_138 : decode cX6_image 138 = .ok (.aload_n 0, 1) := by decide +kernel
theorem dX6_image_139 : decode cX6_image 139 = .ok (.getfield 65, 3) := by decide +kernel
theorem dX6_image_142 : decode cX6_image 142 = .ok (.iload_n 2, 1) := by decide +kernel
theorem dX6_image_143 : decode cX6_image 143 = .ok (.iaload, 1) := by decide +kernel
theorem dX6_image_144 : decode cX6_image 144 = .ok (.invokevirtual 376, 3) := by decide +kernel
theorem dX6_image_147 : decode cX6_image 147 = .ok (.iastore, 1) := by decide +kernel
theorem dX6_image_148 : decode cX6_image 148 = .ok (.aload_n 0, 1) := by decide +kernel
theorem dX6_image_149 : decode cX6_image 149 = .ok (.getfield 68, 3) := by decide +kernel
theorem dX6_image_152 : decode cX6_image 152 = .ok (.iload_n 2, 1) := by decide +kernel
theorem dX6_image_153 : decode cX6_image 153 = .ok (.aload_n 0, 1) := by decide +kernel
theorem dX6_image_154 : decode cX6_image 154 = .ok (.aload_n 0, 1) := by decide +kernel
theorem dX6_image_155 : decode cX6_image 155 = .ok (.getfield 68, 3) := by decide +kernel
theorem dX6_image_158 : decode cX6_image 158 = .ok (.iload_n 2, 1) := by decide +kernel
theorem dX6_image_159 : decode cX6_image 159 = .ok (.iaload, 1) := by decide +kernel
theorem dX6_image_160 : decode cX6_image 160 = .ok (.invokevirtual 376, 3) := by decide +kernel
theorem dX6_image_163 : decode cX6_image 163 = .ok (.iastore, 1) := by decide +kernel
theorem dX6_image_164 : decode cX6_image 164 = .ok (.aload_n 0, 1) := by decide +kernel
theorem dX6_image_165 : decode cX6_image 165 = .ok (.getfield 71, 3) := by decide +kernel
theorem dX6_image_168 : decode cX6_image 168 = .ok (.iload_n 2, 1) := by decide +kernel
theorem dX6_image_169 : decode cX6_image 169 = .ok (.aload_n 0, 1) := by decide +kernel
theorem dX6_image_170 : decode cX6_image 170 = .ok (.aload_n 0, 1) := by decide +kernel
theorem dX6_image_171 : decode cX6_image 171 = .ok (.getfield 71, 3) := by decide +kernel
theorem dX6_image_174 : decode cX6_image 174 = .ok (.iload_n 2, 1) := by decide +kernel
theorem dX6_image_175 : decode cX6_image 175 = .ok (.iaload, 1) := by decide +kernel
theorem dX6_image_176 : decode cX6_image 176 = .ok (.invokevirtual 376, 3) := by decide +kernel
theorem dX6_image_179 : decode cX6_image 179 = .ok (.iastore, 1) := by decide +kernel
theorem dX6_image_180 : decode cX6_image 180 = .ok (.iinc 2 1, 3) := by decide +kernel
theorem dX6_image_183 : decode cX6_image 183 = .ok (.goto (-57), 3) := by decide +kernel
theorem dX6_image_186 : decode cX6_image 186 = .ok (.iconst 0, 1) := by decide +kernel
theorem dX6_image_187 : decode cX6_image 187 = .ok (.istore_n 2, 1) := by decide +kernel
theorem dX6_image_188 : decode cX6_image 188 = .ok (.iload_n 2, 1) := by decide +kernel
theorem dX6_image_189 : decode cX6_image 189 = .ok (.sipush 1600, 3) := by decide +kernel
theorem dX6_image_192 : decode cX6_image 192 = .ok (.if_icmp .ge 41, 3) := by decide +kernel
theorem dX6_image_195 : decode cX6_image 195 = .ok (.aload_n 0, 1) := by decide +kernel
theorem dX6_image_196 : decode cX6_image 196 = .ok (.getfield 74, 3) := by decide +kernel
theorem dX6_image_199 : decode cX6_image 199 = .ok (.iload_n 2, 1) := by decide +kernel
theorem dX6_image_200 : decode cX6_image 200 = .ok (.aload_n 0, 1) := by decide +kernel
theorem dX6_image_201 : decode cX6_image 201 = .ok (.aload_n 0, 1) := by decide +kernel
theorem dX6_image_202 : decode cX6_image 202 = .ok (.getfield 74, 3) := by decide +kernel
theorem dX6_image_205 : decode cX6_image 205 = .ok (.iload_n 2, 1) := by decide +kernel
theorem dX6_image_206 : decode cX6_image 206 = .ok (.iaload, 1) := by decide +kernel
theorem dX6_image_207 : decode cX6_image 207 = .ok (.invokevirtual 376, 3) := by decide +kernel
theorem dX6_image_210 : decode cX6_image 210 = .ok (.iastore, 1) := by decide +kernel
theorem dX6_image_211 : decode cX6_image 211 = .ok (.aload_n 0, 1) := by decide +kernel
theorem dX6_image_212 : decode cX6_image 212 = .ok (.getfield 77, 3) := by decide +kernel
theorem dX6_image_215 : decode cX6_image 215 = .ok (.iload_n 2, 1) := by decide +kernel
theorem dX6_image_216 : decode cX6_image 216 = .ok (.aload_n 0, 1) := by decide +kernel
theorem dX6_image_217 : decode cX6_image 217 = .ok (.aload_n 0, 1) := by decide +kernel
theorem dX6_image_218 : decode cX6_image 218 = .ok (.getfield 77, 3) := by decide +kernel
theorem dX6_image_221 : decode cX6_image 221 = .ok (.iload_n 2, 1) := by decide +kernel
theorem dX6_image_222 : decode cX6_image 222 = .ok (.iaload, 1) := by decide +kernel
theorem dX6_image_223 : decode cX6_image 223 = .ok (.invokevirtual 376, 3) := by decide +kernel
theorem dX6_image_226 : decode cX6_image 226 = .ok (.iastore, 1) := by decide +kernel
theorem dX6_image_227 : decode cX6_image 227 = .ok (.iinc 2 1, 3) := by decide +kernel
theorem dX6_image_230 : decode cX6_image 230 = .ok (.goto (-42), 3) := by decide +kernel
theorem dX6_image_233 : decode cX6_image 233 = .ok (.iconst 1, 1) := by decide +kernel
theorem dX6_image_234 : decode cX6_image 234 = .ok (.ireturn, 1) := by decide +kernel
set_option maxRecDepth 20000 in
theorem ggX6_look_X6_eatenAll : GoodIn wsX6_look wsX6_eatenAll := goodIn_r _ [11, 2, 12, 17, 18, 19, 20, 21, 22, 23, 24, 25, 26, 27, 28, 29, 30, 31, 32, 33, 34, 35, 36, 37, 38, 39, 40, 41, 42, 43, 44, 45, 46, 47, 48, 49, 50, 51, 52, 53, 54, 55, 56, 57, 58, 59, 60, 61, 62, 63, 64, 65, 66, 67, 68, 69, 70, 71] (by decide +kernel) (by decide +kernel)
set_option maxRecDepth 20000 in
theorem gX6_look_X6_eatenAll : GoodIn wsX6_look (wsV RX6 364 RX6 yX6_eatenAll wsX6_eatenAll) := goodIn_app (goodIn_of _ (by decide +kernel)) ggX6_look_X6_eatenAll
set_option maxRecDepth 20000 in
theorem ggX6_look_X6_isIn : GoodIn wsX6_look wsX6_isIn := goodIn_r _ [16] (by decide +kernel) (by decide +kernel)
set_option maxRecDepth 20000 in
theorem gX6_look_X6_isIn : GoodIn wsX6_look (wsV RX6 129 RX6 yX6_isIn wsX6_isIn) := goodIn_app (goodIn_of _ (by decide +kernel)) ggX6_look_X6_isIn
theorem dX6_look_0 : decode cX6_look 0 = .ok (.aload_n 0, 1) := by decide +kernel
theorem dX6_look_1 : decode cX6_look 1 = .ok (.iconst 0, 1) := by decide +kernel
theorem dX6_look_2 : decode cX6_look 2 = .ok (.putfield 121, 3) := by decide +kernel
theorem dX6_look_5 : decode cX6_look 5 = .ok (.iload_n 1, 1) := by decide +kernel
theorem dX6_look_6 : decode cX6_look 6 = .ok (.ifCond .ne 8, 3) := by decide +kernel
theorem dX6_look_9 : decode cX6_look 9 = .ok (.aload_n 0, 1) := by decide +kernel
theorem dX6_look_10 : decode cX6_look 10 = .ok (.getfield 7, 3) := by decide +kernel
theorem dX6_look_13 : decode cX6_look 13 = .ok (.ireturn, 1) := by decide +kernel
theorem dX6_look_14 : decode cX6_look 14 = .ok (.iload_n 1, 1) := by decide +kernel
theorem dX6_look_15 : decode cX6_look 15 = .ok (.iconst 1, 1) := by decide +kernel
theorem dX6_look_16 : decode cX6_look 16 = .ok (.if_icmp .ne 8, 3) := by decide +kernel
theorem dX6_look_19 : decode cX6_look 19 = .ok (.aload_n 0, 1) := by decide +kernel
theorem dX6_look_20 : decode cX6_look 20 = .ok (.getfield 251, 3) := by decide +kernel
theorem dX6_look_23 : decode cX6_look 23 = .ok (.ireturn, 1) := by decide +kernel
theorem dX6_look_24 : decode cX6_look 24 = .ok (.iload_n 1, 1) := by decide +kernel
theorem dX6_look_25 : decode cX6_look 25 = .ok (.iconst 2, 1) := by decide +kernel
theorem dX6_look_26 : decode cX6_look 26 = .ok (.if_icmp .ne 8, 3) := by decide +kernel
theorem dX6_look_29 : decode cX6_look 29 = .ok (.aload_n 0, 1) := by decide +kernel
theorem dX6_look_30 : decode cX6_look 30 = .ok (.getfield 263, 3) := by decide +kernel
theorem dX6_look_33 : decode cX6_look 33 = .ok (.ireturn, 1) := by decide +kernel
theorem dX6_look_34 : decode cX6_look 34 = .ok (.iload_n 1, 1) := by decide +kernel
theorem dX6_look_35 : decode cX6_look 35 = .ok (.iconst 4, 1) := by decide +kernel
theorem dX6_look_36 : decode cX6_look 36 = .ok (.if_icmp .ne 8, 3) := by decide +kernel
theorem dX6_look_39 : decode cX6_look 39 = .ok (.aload_n 0, 1) := by decide +kernel
theorem dX6_look_40 : decode cX6_look 40 = .ok (.invokevirtual 364, 3) := by decide +kernel
theorem dX6_look_43 : decode cX6_look 43 = .ok (.ireturn, 1) := by decide +kernel
theorem dX6_look_44 : decode cX6_look 44 = .ok (.aload_n 0, 1) := by decide +kernel
theorem dX6_look_45 : decode cX6_look 45 = .ok (.iload_n 1, 1) := by decide +kernel
theorem dX6_look_46 : decode cX6_look 46 = .ok (.bipush 10, 2) := by decide +kernel
theorem dX6_look_48 : decode cX6_look 48 = .ok (.bipush 19, 2) := by decide +kernel
theorem dX6_look_50 : decode cX6_look 50 = .ok (.invokevirtual 129, 3) := by decide +kernel
theorem dX6_look_53 : decode cX6_look 53 = .ok (.ifCond .eq 13, 3) := by decide +kernel
theorem dX6_look_56 : decode cX6_look 56 = .ok (.aload_n 0, 1) := by decide +kernel
theorem dX6_look_57 : decode cX6_look 57 = .ok (.getfield 53, 3) := by decide +kernel
theorem dX6_look_60 : decode cX6_look 60 = .ok (.iload_n 1, 1) := by decide +kernel
theorem dX6_look_61 : decode cX6_look 61 = .ok (.bipush 10, 2) := by decide +kernel
theorem dX6_look_63 : decode cX6_look 63 = .ok (.isub, 1) := by decide +kernel
theorem dX6_look_64 : decode cX6_look 64 = .ok (.iaload, 1) := by decide +kernel
theorem dX6_look_65 : decode cX6_look 65 = .ok (.ireturn, 1) := by decide +kernel
theorem dX6_look_66 : decode cX6_look 66 = .ok (.iload_n 1, 1) := by decide +kernel
theorem dX6_look_67 : decode cX6_look 67 = .ok (.iconst 3, 1) := by decide +kernel
theorem dX6_look_68 : decode cX6_look 68 = .ok (.if_icmp .eq 5, 3) := by decide +kernel
theorem dX6_look_71 : decode cX6_look 71 = .ok (.iconst (-1), 1) := by decide +kernel
theorem dX6_look_72 : decode cX6_look 72 = .ok (.ireturn, 1) := by decide +kernel
theorem dX6_look_73 : decode cX6_look 73 = .ok (.iconst 0, 1) := by decide +kernel
theorem dX6_look_74 : decode cX6_look 74 = .ok (.istore_n 2, 1) := by decide +kernel
theorem dX6_look_75 : decode cX6_look 75 = .ok (.iconst 0, 1) := by decide +kernel
theorem dX6_look_76 : decode cX6_look 76 = .ok (.istore_n 3, 1) := by decide +kernel
theorem dX6_look_77 : decode cX6_look 77 = .ok (.iload_n 3, 1) := by decide +kernel
theorem dX6_look_78 : decode cX6_look 78 = .ok (.aload_n 0, 1) := by decide +kernel
theorem dX6_look_79 : decode cX6_look 79 = .ok (.getfield 7, 3) := by decide +kernel
theorem dX6_look_82 : decode cX6_look 82 = .ok (.if_icmp .ge 18, 3) := by decide +kernel
theorem dX6_look_85 : decode cX6_look 85 = .ok (.iload_n 2, 1) := by decide +kernel
theorem dX6_look_86 : decode cX6_look 86 = .ok (.aload_n 0, 1) := by decide +kernel
theorem dX6_look_87 : decode cX6_look 87 = .ok (.getfield 13, 3) := by decide +kernel
theorem dX6_look_90 : decode cX6_look 90 = .ok (.iload_n 3, 1) := by decide +kernel
theorem dX6_look_91 : decode cX6_look 91 = .ok (.iaload, 1) := by decide +kernel
theorem dX6_look_92 : decode cX6_look 92 = .ok (.iadd, 1) := by decide +kernel
theorem dX6_look_93 : decode cX6_look 93 = .ok (.istore_n 2, 1) := by decide +kernel
theorem dX6_look_94 : decode cX6_look 94 = .ok (.iinc 3 1, 3) := by decide +kernel
theorem dX6_look_97 : decode cX6_look 97 = .ok (.goto (-20), 3) := by decide +kernel
theorem dX6_look_100 : decode cX6_look 100 = .ok (.iload_n 2, 1) := by decide +kernel
theorem dX6_look_101 : decode cX6_look 101 = .ok (.ireturn, 1) := by decide +kernel
