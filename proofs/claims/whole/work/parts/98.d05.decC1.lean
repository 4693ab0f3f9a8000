theorem dX6_isStopped_64 : decode cX6_isStopped 64 = .ok (.iconst 0, 1) := by decide +kernel
theorem dX6_isStopped_65 : decode cX6_isStopped 65 = .ok (.ireturn, 1) := by decide +kernel
set_option maxRecDepth 20000 in
theorem ggX6_moves_X6_isStopped : GoodIn wsX6_moves wsX6_isStopped := goodIn_r _ [15, 16, 2, 17, 18, 19, 20, 14, 21, 22, 23, 24, 29, 30, 31, 32, 33, 34, 35, 36, 37, 38, 39, 40, 41, 42, 43, 44, 45, 46, 47, 48, 49, 50, 51, 52, 53, 54, 55, 56, 57, 58, 59, 60, 61, 62, 63, 64, 65, 66, 67, 68, 69, 70, 71, 72, 73, 74, 75, 76, 77, 78, 79, 80, 81, 82, 83] rfl (by decide +kernel)
set_option maxRecDepth 20000 in
theorem gX6_moves_X6_isStopped : GoodIn wsX6_moves (wsV RX6 260 RX6 yX6_isStopped wsX6_isStopped) := goodIn_app (goodIn_of _ (by decide +kernel)) ggX6_moves_X6_isStopped
set_option maxRecDepth 20000 in
theorem ggX6_moves_X6_less : GoodIn wsX6_moves wsX6_less := goodIn_r _ [28] rfl (by decide +kernel)
set_option maxRecDepth 20000 in
theorem gX6_moves_X6_less : GoodIn wsX6_moves (wsV RX6 137 RX6 yX6_less wsX6_less) := goodIn_app (goodIn_of _ (by decide +kernel)) ggX6_moves_X6_less
theorem dX6_moves_0 : decode cX6_moves 0 = .ok (.aload_n 0, 1) := by decide +kernel
theorem dX6_moves_1 : decode cX6_moves 1 = .ok (.getfield 38, 3) := by decide +kernel
theorem dX6_moves_4 : decode cX6_moves 4 = .ok (.iload_n 2, 1) := by decide +kernel
theorem dX6_moves_5 : decode cX6_moves 5 = .ok (.iaload, 1) := by decide +kernel
theorem dX6_moves_6 : decode cX6_moves 6 = .ok (.iconst 1, 1) := by decide +kernel
theorem dX6_moves_7 : decode cX6_moves 7 = .ok (.if_icmp .eq 22, 3) := by decide +kernel
theorem dX6_moves_10 : decode cX6_moves 10 = .ok (.aload_n 0, 1) := by decide +kernel
theorem dX6_moves_11 : decode cX6_moves 11 = .ok (.getfield 53, 3) := by decide +kernel
theorem dX6_moves_14 : decode cX6_moves 14 = .ok (.bipush 9, 2) := by decide +kernel
theorem dX6_moves_16 : decode cX6_moves 16 = .ok (.iaload, 1) := by decide +kernel
theorem dX6_moves_17 : decode cX6_moves 17 = .ok (.ifCond .eq 12, 3) := by decide +kernel
theorem dX6_moves_20 : decode cX6_moves 20 = .ok (.aload_n 0, 1) := by decide +kernel
theorem dX6_moves_21 : decode cX6_moves 21 = .ok (.getfield 13, 3) := by decide +kernel
theorem dX6_moves_24 : decode cX6_moves 24 = .ok (.iload_n 3, 1) := by decide +kernel
theorem dX6_moves_25 : decode cX6_moves 25 = .ok (.iaload, 1) := by decide +kernel
theorem dX6_moves_26 : decode cX6_moves 26 = .ok (.ifCond .ne 4, 3) := by decide +kernel
theorem dX6_moves_29 : decode cX6_moves 29 = .ok (.return_, 1) := by decide +kernel
theorem dX6_moves_30 : decode cX6_moves 30 = .ok (.aload_n 0, 1) := by decide +kernel
theorem dX6_moves_31 : decode cX6_moves 31 = .ok (.iload_n 3, 1) := by decide +kernel
theorem dX6_moves_32 : decode cX6_moves 32 = .ok (.invokevirtual 260, 3) := by decide +kernel
theorem dX6_moves_35 : decode cX6_moves 35 = .ok (.ifCond .eq 45, 3) := by decide +kernel
theorem dX6_moves_38 : decode cX6_moves 38 = .ok (.aload_n 0, 1) := by decide +kernel
theorem dX6_moves_39 : decode cX6_moves 39 = .ok (.getfield 32, 3) := by decide +kernel
theorem dX6_moves_42 : decode cX6_moves 42 = .ok (.iload_n 1, 1) := by decide +kernel
theorem dX6_moves_43 : decode cX6_moves 43 = .ok (.aload_n 0, 1) := by decide +kernel
theorem dX6_moves_44 : decode cX6_moves 44 = .ok (.getfield 32, 3) := by decide +kernel
theorem dX6_moves_47 : decode cX6_moves 47 = .ok (.iload_n 1, 1) := by decide +kernel
theorem dX6_moves_48 : decode cX6_moves 48 = .ok (.iaload, 1) := by decide +kernel
theorem dX6_moves_49 : decode cX6_moves 49 = .ok (.iconst 1, 1) := by decide +kernel
theorem dX6_moves_50 : decode cX6_moves 50 = .ok (.iadd, 1) := by decide +kernel
theorem dX6_moves_51 : decode cX6_moves 51 = .ok (.iastore, 1) := by decide +kernel
theorem dX6_moves_52 : decode cX6_moves 52 = .ok (.aload_n 0, 1) := by decide +kernel
theorem dX6_moves_53 : decode cX6_moves 53 = .ok (.getfield 26, 3) := by decide +kernel
theorem dX6_moves_56 : decode cX6_moves 56 = .ok (.iload_n 1, 1) := by decide +kernel
theorem dX6_moves_57 : decode cX6_moves 57 = .ok (.aload_n 0, 1) := by decide +kernel
theorem dX6_moves_58 : decode cX6_moves 58 = .ok (.getfield 26, 3) := by decide +kernel
theorem dX6_moves_61 : decode cX6_moves 61 = .ok (.iload_n 1, 1) := by decide +kernel
theorem dX6_moves_62 : decode cX6_moves 62 = .ok (.iaload, 1) := by decide +kernel
theorem dX6_moves_63 : decode cX6_moves 63 = .ok (.aload_n 0, 1) := by decide +kernel
theorem dX6_moves_64 : decode cX6_moves 64 = .ok (.getfield 53, 3) := by decide +kernel
theorem dX6_moves_67 : decode cX6_moves 67 = .ok (.bipush 6, 2) := by decide +kernel
theorem dX6_moves_69 : decode cX6_moves 69 = .ok (.iaload, 1) := by decide +kernel
theorem dX6_moves_70 : decode cX6_moves 70 = .ok (.isub, 1) := by decide +kernel
theorem dX6_moves_71 : decode cX6_moves 71 = .ok (.iastore, 1) := by decide +kernel
theorem dX6_moves_72 : decode cX6_moves 72 = .ok (.aload_n 0, 1) := by decide +kernel
theorem dX6_moves_73 : decode cX6_moves 73 = .ok (.getfield 44, 3) := by decide +kernel
theorem dX6_moves_76 : decode cX6_moves 76 = .ok (.iload_n 2, 1) := by decide +kernel
theorem dX6_moves_77 : decode cX6_moves 77 = .ok (.iconst 0, 1) := by decide +kernel
theorem dX6_moves_78 : decode cX6_moves 78 = .ok (.iastore, 1) := by decide +kernel
theorem dX6_moves_79 : decode cX6_moves 79 = .ok (.return_, 1) := by decide +kernel
theorem dX6_moves_80 : decode cX6_moves 80 = .ok (.aload_n 0, 1) := by decide +kernel
theorem dX6_moves_81 : decode cX6_moves 81 = .ok (.getfield 44, 3) := by decide +kernel
theorem dX6_moves_84 : decode cX6_moves 84 = .ok (.iload_n 2, 1) := by decide +kernel
theorem dX6_moves_85 : decode cX6_moves 85 = .ok (.aload_n 0, 1) := by decide +kernel
theorem dX6_moves_86 : decode cX6_moves 86 = .ok (.getfield 47, 3) := by decide +kernel
theorem dX6_moves_89 : decode cX6_moves 89 = .ok (.iload_n 2, 1) := by decide +kernel
theorem dX6_moves_90 : decode cX6_moves 90 = .ok (.iaload, 1) := by decide +kernel
theorem dX6_moves_91 : decode cX6_moves 91 = .ok (.iload_n 1, 1) := by decide +kernel
theorem dX6_moves_92 : decode cX6_moves 92 = .ok (.if_icmp .ne 14, 3) := by decide +kernel
theorem dX6_moves_95 : decode cX6_moves 95 = .ok (.aload_n 0, 1) := by decide +kernel
theorem dX6_moves_96 : decode cX6_moves 96 = .ok (.getfield 44, 3) := by decide +kernel
theorem dX6_moves_99 : decode cX6_moves 99 = .ok (.iload_n 2, 1) := by decide +kernel
theorem dX6_moves_100 : decode cX6_moves 100 = .ok (.iaload, 1) := by decide +kernel
theorem dX6_moves_101 : decode cX6_moves 101 = .ok (.iconst 1, 1) := by decide +kernel
theorem dX6_moves_102 : decode cX6_moves 102 = .ok (.iadd, 1) := by decide +kernel
theorem dX6_moves_103 : decode cX6_moves 103 = .ok (.goto 4, 3) := by decide +kernel
theorem dX6_moves_106 : decode cX6_moves 106 = .ok (.iconst 1, 1) := by decide +kernel
theorem dX6_moves_107 : decode cX6_moves 107 = .ok (.iastore, 1) := by decide +kernel
theorem dX6_moves_108 : decode cX6_moves 108 = .ok (.aload_n 0, 1) := by decide +kernel
theorem dX6_moves_109 : decode cX6_moves 109 = .ok (.getfield 47, 3) := by decide +kernel
theorem dX6_moves_112 : decode cX6_moves 112 = .ok (.iload_n 2, 1) := by decide +kernel
theorem dX6_moves_113 : decode cX6_moves 113 = .ok (.iload_n 1, 1) := by decide +kernel
theorem dX6_moves_114 : decode cX6_moves 114 = .ok (.iastore, 1) := by decide +kernel
theorem dX6_moves_115 : decode cX6_moves 115 = .ok (.aload_n 0, 1) := by decide +kernel
theorem dX6_moves_116 : decode cX6_moves 116 = .ok (.getfield 44, 3) := by decide +kernel
theorem dX6_moves_119 : decode cX6_moves 119 = .ok (.iload_n 2, 1) := by decide +kernel
theorem dX6_moves_120 : decode cX6_moves 120 = .ok (.iaload, 1) := by decide +kernel
theorem dX6_moves_121 : decode cX6_moves 121 = .ok (.aload_n 0, 1) := by decide +kernel
theorem dX6_moves_122 : decode cX6_moves 122 = .ok (.getfield 41, 3) := by decide +kernel
theorem dX6_moves_125 : decode cX6_moves 125 = .ok (.iload_n 2, 1) := by decide +kernel
theorem dX6_moves_126 : decode cX6_moves 126 = .ok (.iaload, 1) := by decide +kernel
theorem dX6_moves_127 : decode cX6_moves 127 = .ok (.if_icmp .gt 4, 3) := by decide +kernel
theorem dX6_moves_130 : decode cX6_moves 130 = .ok (.return_, 1) := by decide +kernel
theorem dX6_moves_131 : decode cX6_moves 131 = .ok (.aload_n 0, 1) := by decide +kernel
theorem dX6_moves_132 : decode cX6_moves 132 = .ok (.aload_n 0, 1) := by decide +kernel
theorem dX6_moves_133 : decode cX6_moves 133 = .ok (.getfield 53, 3) := by decide +kernel
theorem dX6_moves_136 : decode cX6_moves 136 = .ok (.bipush 9, 2) := by decide +kernel
theorem dX6_moves_138 : decode cX6_moves 138 = .ok (.iaload, 1) := by decide +kernel
theorem dX6_moves_139 : decode cX6_moves 139 = .ok (.aload_n 0, 1) := by decide +kernel
theorem dX6_moves_140 : decode cX6_moves 140 = .ok (.getfield 13, 3) := by decide +kernel
theorem dX6_moves_143 : decode cX6_moves 143 = .ok (.iload_n 3, 1) := by decide +kernel
theorem dX6_moves_144 : decode cX6_moves 144 = .ok (.iaload, 1) := by decide +kernel
theorem dX6_moves_145 : decode cX6_moves 145 = .ok (.invokevirtual 137, 3) := by decide +kernel
theorem dX6_moves_148 : decode cX6_moves 148 = .ok (.istore 4, 2) := by decide +kernel
theorem dX6_moves_150 : decode cX6_moves 150 = .ok (.aload_n 0, 1) := by decide +kernel
theorem dX6_moves_151 : decode cX6_moves 151 = .ok (.getfield 44, 3) := by decide +kernel
theorem dX6_moves_154 : decode cX6_moves 154 = .ok (.iload_n 2, 1) := by decide +kernel
theorem dX6_moves_155 : decode cX6_moves 155 = .ok (.iconst 0, 1) := by decide +kernel
theorem dX6_moves_156 : decode cX6_moves 156 = .ok (.iastore, 1) := by decide +kernel
theorem dX6_moves_157 : decode cX6_moves 157 = .ok (.aload_n 0, 1) := by decide +kernel
theorem dX6_moves_158 : decode cX6_moves 158 = .ok (.getfield 13, 3) := by decide +kernel
theorem dX6_moves_161 : decode cX6_moves 161 = .ok (.iload_n 3, 1) := by decide +kernel
theorem dX6_moves_162 : decode cX6_moves 162 = .ok (.aload_n 0, 1) := by decide +kernel
theorem dX6_moves_163 : decode cX6_moves 163 = .ok (.getfield 13, 3) := by decide +kernel
theorem dX6_moves_166 : decode cX6_moves 166 = .ok (.iload_n 3, 1) := by decide +kernel
theorem dX6_moves_167 : decode cX6_moves 167 = .ok (.iaload, 1) := by decide +kernel
theorem dX6_moves_168 : decode cX6_moves 168 = .ok (.iload 4, 2) := by decide +kernel
theorem dX6_moves_170 : decode cX6_moves 170 = .ok (.isub, 1) := by decide +kernel
theorem dX6_moves_171 : decode cX6_moves 171 = .ok (.iastore, 1) := by decide +kernel
theorem dX6_moves_172 : decode cX6_moves 172 = .ok (.aload_n 0, 1) := by decide +kernel
theorem dX6_moves_173 : decode cX6_moves 173 = .ok (.getfield 13, 3) := by decide +kernel
theorem dX6_moves_176 : decode cX6_moves 176 = .ok (.iload_n 1, 1) := by decide +kernel
theorem dX6_moves_177 : decode cX6_moves 177 = .ok (.aload_n 0, 1) := by decide +kernel
theorem dX6_moves_178 : decode cX6_moves 178 = .ok (.getfield 13, 3) := by decide +kernel
theorem dX6_moves_181 : decode cX6_moves 181 = .ok (.iload_n 1, 1) := by decide +kernel
theorem dX6_moves_182 : decode cX6_moves 182 = .ok (.iaload, 1) := by decide +kernel
theorem dX6_moves_183 : decode cX6_moves 183 = .ok (.iload 4, 2) := by decide +kernel
theorem dX6_moves_185 : decode cX6_moves 185 = .ok (.iadd, 1) := by decide +kernel
theorem dX6_moves_186 : decode cX6_moves 186 = .ok (.iastore, 1) := by decide +kernel
theorem dX6_moves_187 : decode cX6_moves 187 = .ok (.aload_n 0, 1) := by decide +kernel
theorem dX6_moves_188 : decode cX6_moves 188 = .ok (.getfield 95, 3) := by decide +kernel
theorem dX6_moves_191 : decode cX6_moves 191 = .ok (.iload_n 3, 1) := by decide +kernel
theorem dX6_moves_192 : decode cX6_moves 192 = .ok (.iconst 1, 1) := by decide +kernel
theorem dX6_moves_193 : decode cX6_moves 193 = .ok (.bastore, 1) := by decide +kernel
theorem dX6_moves_194 : decode cX6_moves 194 = .ok (.aload_n 0, 1) := by decide +kernel
theorem dX6_moves_195 : decode cX6_moves 195 = .ok (.aload_n 0, 1) := by decide +kernel
theorem dX6_moves_196 : decode cX6_moves 196 = .ok (.getfield 263, 3) := by decide +kernel
theorem dX6_moves_199 : decode cX6_moves 199 = .ok (.iload 4, 2) := by decide +kernel
theorem dX6_moves_201 : decode cX6_moves 201 = .ok (.iadd, 1) := by decide +kernel
theorem dX6_moves_202 : decode cX6_moves 202 = .ok (.putfield 263, 3) := by decide +kernel
theorem dX6_moves_205 : decode cX6_moves 205 = .ok (.return_, 1) := by decide +kernel
set_option maxRecDepth 20000 in
theorem ggX6_goesBy_X6_doingOf : GoodIn wsX6_goesBy wsX6_doingOf := goodIn_r _ [15, 6, 16, 4, 10, 8, 7, 17, 18, 5, 19, 20, 21, 22, 14, 23, 1, 24, 25, 26, 27, 28, 29, 30, 31, 32, 33, 34, 35, 36, 37, 38, 39, 40, 41, 42, 43, 44, 45, 46, 47, 48, 49, 50, 51, 52, 53, 54, 75, 76, 77, 78, 79, 80, 81, 82, 83, 84, 85, 86, 87, 88, 89, 90, 91, 92, 93, 94, 95, 96, 97, 98, 99, 100, 101, 102, 103, 104, 105, 106, 107, 108, 109, 110, 111, 112, 113, 114, 115, 116, 117, 118, 119, 120, 121, 122, 123, 124, 125, 126, 127, 128, 129] rfl (by decide +kernel)
set_option maxRecDepth 20000 in
theorem gX6_goesBy_X6_doingOf : GoodIn wsX6_goesBy (wsV RX6 266 RX6 yX6_doingOf wsX6_doingOf) := goodIn_app (goodIn_of _ (by decide +kernel)) ggX6_goesBy_X6_doingOf
set_option maxRecDepth 20000 in
theorem ggX6_goesBy_X6_leftOf : GoodIn wsX6_goesBy wsX6_leftOf := goodIn_r _ [23, 1, 75, 76, 77, 78, 79, 80, 81, 82, 83, 84, 85, 86, 87, 88, 89, 90, 91, 92, 93, 94, 95, 96, 97, 98, 99, 100, 101, 102, 103, 104, 105, 106, 107, 108, 109, 110, 111, 112, 113, 114, 115, 116, 117, 118, 119, 120, 121, 122, 123, 124, 125, 126, 127, 128, 129] rfl (by decide +kernel)
set_option maxRecDepth 20000 in
theorem gX6_goesBy_X6_leftOf : GoodIn wsX6_goesBy (wsV RX6 245 RX6 yX6_leftOf wsX6_leftOf) := goodIn_app (goodIn_of _ (by decide +kernel)) ggX6_goesBy_X6_leftOf
set_option maxRecDepth 20000 in
theorem ggX6_goesBy_X6_moves : GoodIn wsX6_goesBy wsX6_moves := goodIn_r _ [58, 18, 4, 6, 59, 5, 60, 61, 62, 3, 63, 64, 65, 66, 14, 67, 2, 7, 68, 69, 70, 71, 72, 73, 74, 32, 33, 34, 35, 75, 76, 77, 78, 79, 80, 81, 82, 83, 84, 85, 86, 87, 88, 89, 90, 91, 92, 93, 94, 95, 96, 97, 98, 99, 100, 101, 102, 103, 104, 105, 106, 107, 108, 109, 110, 111, 112, 113, 114, 115, 116, 117, 118, 119, 120, 121, 122, 123, 124, 125, 126, 127, 128, 129] rfl (by decide +kernel)
set_option maxRecDepth 20000 in
theorem gX6_goesBy_X6_moves : GoodIn wsX6_goesBy (wsV RX6 269 RX6 yX6_moves wsX6_moves) := goodIn_app (goodIn_of _ (by decide +kernel)) ggX6_goesBy_X6_moves
set_option maxRecDepth 20000 in
theorem ggX6_goesBy_X6_rightOf : GoodIn wsX6_goesBy wsX6_rightOf := goodIn_r _ [27, 1, 75, 76, 77, 78, 79, 80, 81, 82, 83, 84, 85, 86, 87, 88, 89, 90, 91, 92, 93, 94, 95, 96, 97, 98, 99, 100, 101, 102, 103, 104, 105, 106, 107, 108, 109, 110, 111, 112, 113, 114, 115, 116, 117, 118, 119, 120, 121, 122, 123, 124, 125, 126, 127, 128, 129] rfl (by decide +kernel)
set_option maxRecDepth 20000 in
theorem gX6_goesBy_X6_rightOf : GoodIn wsX6_goesBy (wsV RX6 248 RX6 yX6_rightOf wsX6_rightOf) := goodIn_app (goodIn_of _ (by decide +kernel)) ggX6_goesBy_X6_rightOf
set_option maxRecDepth 20000 in
theorem ggX6_goesBy_X6_worthOf : GoodIn wsX6_goesBy wsX6_worthOf := goodIn_r _ [31, 4, 32, 33, 34, 14, 35, 75, 76, 77, 78, 79, 80, 81, 82, 83, 84, 85, 86, 87, 88, 89, 90, 91, 92, 93, 94, 95, 96, 97, 98, 99, 100, 101, 102, 103, 104, 105, 106, 107, 108, 109, 110, 111, 112, 113, 114, 115, 116, 117, 118, 119, 120, 121, 122, 123, 124, 125, 126, 127, 128, 129] rfl (by decide +kernel)
set_option maxRecDepth 20000 in
theorem gX6_goesBy_X6_worthOf : GoodIn wsX6_goesBy (wsV RX6 141 RX6 yX6_worthOf wsX6_worthOf) := goodIn_app (goodIn_of _ (by decide +kernel)) ggX6_goesBy_X6_worthOf
set_option maxRecDepth 20000 in
theorem ggX6_goesBy_X6_less : GoodIn wsX6_goesBy wsX6_less := goodIn_r _ [35] rfl (by decide +kernel)
set_option maxRecDepth 20000 in
theorem gX6_goesBy_X6_less : GoodIn wsX6_goesBy (wsV RX6 137 RX6 yX6_less wsX6_less) := goodIn_app (goodIn_of _ (by decide +kernel)) ggX6_goesBy_X6_less
theorem dX6_goesBy_0 : decode cX6_goesBy 0 = .ok (.iconst 0, 1) := by decide +kernel
theorem dX6_goesBy_1 : decode cX6_goesBy 1 = .ok (.istore_n 1, 1) := by decide +kernel
theorem dX6_goesBy_2 : decode cX6_goesBy 2 = .ok (.iload_n 1, 1) := by decide +kernel
theorem dX6_goesBy_3 : decode cX6_goesBy 3 = .ok (.aload_n 0, 1) := by decide +kernel
theorem dX6_goesBy_4 : decode cX6_goesBy 4 = .ok (.getfield 7, 3) := by decide +kernel
theorem dX6_goesBy_7 : decode cX6_goesBy 7 = .ok (.if_icmp .ge 27, 3) := by decide +kernel
theorem dX6_goesBy_10 : decode cX6_goesBy 10 = .ok (.aload_n 0, 1) := by decide +kernel
theorem dX6_goesBy_11 : decode cX6_goesBy 11 = .ok (.getfield 92, 3) := by decide +kernel
theorem dX6_goesBy_14 : decode cX6_goesBy 14 = .ok (.iload_n 1, 1) := by decide +kernel
theorem dX6_goesBy_15 : decode cX6_goesBy 15 = .ok (.aload_n 0, 1) := by decide +kernel
theorem dX6_goesBy_16 : decode cX6_goesBy 16 = .ok (.iload_n 1, 1) := by decide +kernel
theorem dX6_goesBy_17 : decode cX6_goesBy 17 = .ok (.invokevirtual 266, 3) := by decide +kernel
theorem dX6_goesBy_20 : decode cX6_goesBy 20 = .ok (.iastore, 1) := by decide +kernel
theorem dX6_goesBy_21 : decode cX6_goesBy 21 = .ok (.aload_n 0, 1) := by decide +kernel
theorem dX6_goesBy_22 : decode cX6_goesBy 22 = .ok (.getfield 95, 3) := by decide +kernel
theorem dX6_goesBy_25 : decode cX6_goesBy 25 = .ok (.iload_n 1, 1) := by decide +kernel
theorem dX6_goesBy_26 : decode cX6_goesBy 26 = .ok (.iconst 0, 1) := by decide +kernel
theorem dX6_goesBy_27 : decode cX6_goesBy 27 = .ok (.bastore, 1) := by decide +kernel
theorem dX6_goesBy_28 : decode cX6_goesBy 28 = .ok (.iinc 1 1, 3) := by decide +kernel
theorem dX6_goesBy_31 : decode cX6_goesBy 31 = .ok (.goto (-29), 3) := by decide +kernel
theorem dX6_goesBy_34 : decode cX6_goesBy 34 = .ok (.iconst 0, 1) := by decide +kernel
theorem dX6_goesBy_35 : decode cX6_goesBy 35 = .ok (.istore_n 1, 1) := by decide +kernel
theorem dX6_goesBy_36 : decode cX6_goesBy 36 = .ok (.iload_n 1, 1) := by decide +kernel
theorem dX6_goesBy_37 : decode cX6_goesBy 37 = .ok (.aload_n 0, 1) := by decide +kernel
theorem dX6_goesBy_38 : decode cX6_goesBy 38 = .ok (.getfield 7, 3) := by decide +kernel
theorem dX6_goesBy_41 : decode cX6_goesBy 41 = .ok (.if_icmp .ge 55, 3) := by decide +kernel
theorem dX6_goesBy_44 : decode cX6_goesBy 44 = .ok (.aload_n 0, 1) := by decide +kernel
theorem dX6_goesBy_45 : decode cX6_goesBy 45 = .ok (.getfield 92, 3) := by decide +kernel
theorem dX6_goesBy_48 : decode cX6_goesBy 48 = .ok (.iload_n 1, 1) := by decide +kernel
theorem dX6_goesBy_49 : decode cX6_goesBy 49 = .ok (.iaload, 1) := by decide +kernel
theorem dX6_goesBy_50 : decode cX6_goesBy 50 = .ok (.iconst 2, 1) := by decide +kernel
theorem dX6_goesBy_51 : decode cX6_goesBy 51 = .ok (.if_icmp .ne 18, 3) := by decide +kernel
theorem dX6_goesBy_54 : decode cX6_goesBy 54 = .ok (.aload_n 0, 1) := by decide +kernel
theorem dX6_goesBy_55 : decode cX6_goesBy 55 = .ok (.iload_n 1, 1) := by decide +kernel
theorem dX6_goesBy_56 : decode cX6_goesBy 56 = .ok (.aload_n 0, 1) := by decide +kernel
theorem dX6_goesBy_57 : decode cX6_goesBy 57 = .ok (.iload_n 1, 1) := by decide +kernel
theorem dX6_goesBy_58 : decode cX6_goesBy 58 = .ok (.invokevirtual 245, 3) := by decide +kernel
theorem dX6_goesBy_61 : decode cX6_goesBy 61 = .ok (.aload_n 0, 1) := by decide +kernel
theorem dX6_goesBy_62 : decode cX6_goesBy 62 = .ok (.iload_n 1, 1) := by decide +kernel
theorem dX6_goesBy_63 : decode cX6_goesBy 63 = .ok (.invokevirtual 245, 3) := by decide +kernel
theorem dX6_goesBy_66 : decode cX6_goesBy 66 = .ok (.invokevirtual 269, 3) := by decide +kernel
theorem dX6_goesBy_69 : decode cX6_goesBy 69 = .ok (.aload_n 0, 1) := by decide +kernel
theorem dX6_goesBy_70 : decode cX6_goesBy 70 = .ok (.getfield 92, 3) := by decide +kernel
theorem dX6_goesBy_73 : decode cX6_goesBy 73 = .ok (.iload_n 1, 1) := by decide +kernel
theorem dX6_goesBy_74 : decode cX6_goesBy 74 = .ok (.iaload, 1) := by decide +kernel
theorem dX6_goesBy_75 : decode cX6_goesBy 75 = .ok (.iconst 3, 1) := by decide +kernel
theorem dX6_goesBy_76 : decode cX6_goesBy 76 = .ok (.if_icmp .ne 14, 3) := by decide +kernel
theorem dX6_goesBy_79 : decode cX6_goesBy 79 = .ok (.aload_n 0, 1) := by decide +kernel
theorem dX6_goesBy_80 : decode cX6_goesBy 80 = .ok (.iload_n 1, 1) := by decide +kernel
theorem dX6_goesBy_81 : decode cX6_goesBy 81 = .ok (.iload_n 1, 1) := by decide +kernel
theorem dX6_goesBy_82 : decode cX6_goesBy 82 = .ok (.aload_n 0, 1) := by decide +kernel
theorem dX6_goesBy_83 : decode cX6_goesBy 83 = .ok (.iload_n 1, 1) := by decide +kernel
theorem dX6_goesBy_84 : decode cX6_goesBy 84 = .ok (.invokevirtual 248, 3) := by decide +kernel
theorem dX6_goesBy_87 : decode cX6_goesBy 87 = .ok (.invokevirtual 269, 3) := by decide +kernel
theorem dX6_goesBy_90 : decode cX6_goesBy 90 = .ok (.iinc 1 1, 3) := by decide +kernel
theorem dX6_goesBy_93 : decode cX6_goesBy 93 = .ok (.goto (-57), 3) := by decide +kernel
theorem dX6_goesBy_96 : decode cX6_goesBy 96 = .ok (.iconst 0, 1) := by decide +kernel
theorem dX6_goesBy_97 : decode cX6_goesBy 97 = .ok (.istore_n 1, 1) := by decide +kernel
theorem dX6_goesBy_98 : decode cX6_goesBy 98 = .ok (.iload_n 1, 1) := by decide +kernel
theorem dX6_goesBy_99 : decode cX6_goesBy 99 = .ok (.aload_n 0, 1) := by decide +kernel
theorem dX6_goesBy_100 : decode cX6_goesBy 100 = .ok (.getfield 7, 3) := by decide +kernel
theorem dX6_goesBy_103 : decode cX6_goesBy 103 = .ok (.if_icmp .ge 156, 3) := by decide +kernel
theorem dX6_goesBy_106 : decode cX6_goesBy 106 = .ok (.aload_n 0, 1) := by decide +kernel
theorem dX6_goesBy_107 : decode cX6_goesBy 107 = .ok (.getfield 92, 3) := by decide +kernel
theorem dX6_goesBy_110 : decode cX6_goesBy 110 = .ok (.iload_n 1, 1) := by decide +kernel
theorem dX6_goesBy_111 : decode cX6_goesBy 111 = .ok (.iaload, 1) := by decide +kernel
theorem dX6_goesBy_112 : decode cX6_goesBy 112 = .ok (.iconst 1, 1) := by decide +kernel
theorem dX6_goesBy_113 : decode cX6_goesBy 113 = .ok (.if_icmp .ne 12, 3) := by decide +kernel
theorem dX6_goesBy_116 : decode cX6_goesBy 116 = .ok (.aload_n 0, 1) := by decide +kernel
theorem dX6_goesBy_117 : decode cX6_goesBy 117 = .ok (.getfield 53, 3) := by decide +kernel
theorem dX6_goesBy_120 : decode cX6_goesBy 120 = .ok (.iconst 4, 1) := by decide +kernel
theorem dX6_goesBy_121 : decode cX6_goesBy 121 = .ok (.iaload, 1) := by decide +kernel
theorem dX6_goesBy_122 : decode cX6_goesBy 122 = .ok (.goto 22, 3) := by decide +kernel
theorem dX6_goesBy_125 : decode cX6_goesBy 125 = .ok (.aload_n 0, 1) := by decide +kernel
theorem dX6_goesBy_126 : decode cX6_goesBy 126 = .ok (.getfield 92, 3) := by decide +kernel
theorem dX6_goesBy_129 : decode cX6_goesBy 129 = .ok (.iload_n 1, 1) := by decide +kernel
theorem dX6_goesBy_130 : decode cX6_goesBy 130 = .ok (.iaload, 1) := by decide +kernel
theorem dX6_goesBy_131 : decode cX6_goesBy 131 = .ok (.ifCond .ne 7, 3) := by decide +kernel
theorem dX6_goesBy_134 : decode cX6_goesBy 134 = .ok (.iconst 0, 1) := by decide +kernel
theorem dX6_goesBy_135 : decode cX6_goesBy 135 = .ok (.goto 9, 3) := by decide +kernel
theorem dX6_goesBy_138 : decode cX6_goesBy 138 = .ok (.aload_n 0, 1) := by decide +kernel
theorem dX6_goesBy_139 : decode cX6_goesBy 139 = .ok (.getfield 53, 3) := by decide +kernel
theorem dX6_goesBy_142 : decode cX6_goesBy 142 = .ok (.iconst 3, 1) := by decide +kernel
theorem dX6_goesBy_143 : decode cX6_goesBy 143 = .ok (.iaload, 1) := by decide +kernel
theorem dX6_goesBy_144 : decode cX6_goesBy 144 = .ok (.istore_n 2, 1) := by decide +kernel
theorem dX6_goesBy_145 : decode cX6_goesBy 145 = .ok (.aload_n 0, 1) := by decide +kernel
theorem dX6_goesBy_146 : decode cX6_goesBy 146 = .ok (.getfield 26, 3) := by decide +kernel
theorem dX6_goesBy_149 : decode cX6_goesBy 149 = .ok (.iload_n 1, 1) := by decide +kernel
theorem dX6_goesBy_150 : decode cX6_goesBy 150 = .ok (.aload_n 0, 1) := by decide +kernel
theorem dX6_goesBy_151 : decode cX6_goesBy 151 = .ok (.getfield 26, 3) := by decide +kernel
theorem dX6_goesBy_154 : decode cX6_goesBy 154 = .ok (.iload_n 1, 1) := by decide +kernel
theorem dX6_goesBy_155 : decode cX6_goesBy 155 = .ok (.iaload, 1) := by decide +kernel
theorem dX6_goesBy_156 : decode cX6_goesBy 156 = .ok (.aload_n 0, 1) := by decide +kernel
theorem dX6_goesBy_157 : decode cX6_goesBy 157 = .ok (.aload_n 0, 1) := by decide +kernel
theorem dX6_goesBy_158 : decode cX6_goesBy 158 = .ok (.getfield 13, 3) := by decide +kernel
theorem dX6_goesBy_161 : decode cX6_goesBy 161 = .ok (.iload_n 1, 1) := by decide +kernel
theorem dX6_goesBy_162 : decode cX6_goesBy 162 = .ok (.iaload, 1) := by decide +kernel
theorem dX6_goesBy_163 : decode cX6_goesBy 163 = .ok (.invokevirtual 141, 3) := by decide +kernel
theorem dX6_goesBy_166 : decode cX6_goesBy 166 = .ok (.iadd, 1) := by decide +kernel
theorem dX6_goesBy_167 : decode cX6_goesBy 167 = .ok (.iload_n 2, 1) := by decide +kernel
theorem dX6_goesBy_168 : decode cX6_goesBy 168 = .ok (.isub, 1) := by decide +kernel
theorem dX6_goesBy_169 : decode cX6_goesBy 169 = .ok (.aload_n 0, 1) := by decide +kernel
theorem dX6_goesBy_170 : decode cX6_goesBy 170 = .ok (.getfield 23, 3) := by decide +kernel
theorem dX6_goesBy_173 : decode cX6_goesBy 173 = .ok (.iload_n 1, 1) := by decide +kernel
theorem dX6_goesBy_174 : decode cX6_goesBy 174 = .ok (.iaload, 1) := by decide +kernel
theorem dX6_goesBy_175 : decode cX6_goesBy 175 = .ok (.iconst 1, 1) := by decide +kernel
theorem dX6_goesBy_176 : decode cX6_goesBy 176 = .ok (.if_icmp .ne 12, 3) := by decide +kernel
theorem dX6_goesBy_179 : decode cX6_goesBy 179 = .ok (.aload_n 0, 1) := by decide +kernel
theorem dX6_goesBy_180 : decode cX6_goesBy 180 = .ok (.getfield 53, 3) := by decide +kernel
theorem dX6_goesBy_183 : decode cX6_goesBy 183 = .ok (.iconst 5, 1) := by decide +kernel
theorem dX6_goesBy_184 : decode cX6_goesBy 184 = .ok (.iaload, 1) := by decide +kernel
theorem dX6_goesBy_185 : decode cX6_goesBy 185 = .ok (.goto 4, 3) := by decide +kernel
theorem dX6_goesBy_188 : decode cX6_goesBy 188 = .ok (.iconst 0, 1) := by decide +kernel
theorem dX6_goesBy_189 : decode cX6_goesBy 189 = .ok (.isub, 1) := by decide +kernel
theorem dX6_goesBy_190 : decode cX6_goesBy 190 = .ok (.iastore, 1) := by decide +kernel
theorem dX6_goesBy_191 : decode cX6_goesBy 191 = .ok (.aload_n 0, 1) := by decide +kernel
theorem dX6_goesBy_192 : decode cX6_goesBy 192 = .ok (.getfield 29, 3) := by decide +kernel
theorem dX6_goesBy_195 : decode cX6_goesBy 195 = .ok (.iload_n 1, 1) := by decide +kernel
theorem dX6_goesBy_196 : decode cX6_goesBy 196 = .ok (.aload_n 0, 1) := by decide +kernel
theorem dX6_goesBy_197 : decode cX6_goesBy 197 = .ok (.getfield 95, 3) := by decide +kernel
theorem dX6_goesBy_200 : decode cX6_goesBy 200 = .ok (.iload_n 1, 1) := by decide +kernel
theorem dX6_goesBy_201 : decode cX6_goesBy 201 = .ok (.baload, 1) := by decide +kernel
theorem dX6_goesBy_202 : decode cX6_goesBy 202 = .ok (.ifCond .eq 7, 3) := by decide +kernel
theorem dX6_goesBy_205 : decode cX6_goesBy 205 = .ok (.iconst 0, 1) := by decide +kernel
theorem dX6_goesBy_206 : decode cX6_goesBy 206 = .ok (.goto 17, 3) := by decide +kernel
theorem dX6_goesBy_209 : decode cX6_goesBy 209 = .ok (.aload_n 0, 1) := by decide +kernel
theorem dX6_goesBy_210 : decode cX6_goesBy 210 = .ok (.bipush 99, 2) := by decide +kernel
theorem dX6_goesBy_212 : decode cX6_goesBy 212 = .ok (.aload_n 0, 1) := by decide +kernel
theorem dX6_goesBy_213 : decode cX6_goesBy 213 = .ok (.getfield 29, 3) := by decide +kernel
theorem dX6_goesBy_216 : decode cX6_goesBy 216 = .ok (.iload_n 1, 1) := by decide +kernel
theorem dX6_goesBy_217 : decode cX6_goesBy 217 = .ok (.iaload, 1) := by decide +kernel
theorem dX6_goesBy_218 : decode cX6_goesBy 218 = .ok (.iconst 1, 1) := by decide +kernel
theorem dX6_goesBy_219 : decode cX6_goesBy 219 = .ok (.iadd, 1) := by decide +kernel
theorem dX6_goesBy_220 : decode cX6_goesBy 220 = .ok (.invokevirtual 137, 3) := by decide +kernel
theorem dX6_goesBy_223 : decode cX6_goesBy 223 = .ok (.iastore, 1) := by decide +kernel
theorem dX6_goesBy_224 : decode cX6_goesBy 224 = .ok (.aload_n 0, 1) := by decide +kernel
theorem dX6_goesBy_225 : decode cX6_goesBy 225 = .ok (.getfield 13, 3) := by decide +kernel
theorem dX6_goesBy_228 : decode cX6_goesBy 228 = .ok (.iload_n 1, 1) := by decide +kernel
theorem dX6_goesBy_229 : decode cX6_goesBy 229 = .ok (.iaload, 1) := by decide +kernel
theorem dX6_goesBy_230 : decode cX6_goesBy 230 = .ok (.ifCond .ne 23, 3) := by decide +kernel
theorem dX6_goesBy_233 : decode cX6_goesBy 233 = .ok (.aload_n 0, 1) := by decide +kernel
theorem dX6_goesBy_234 : decode cX6_goesBy 234 = .ok (.getfield 35, 3) := by decide +kernel
theorem dX6_goesBy_237 : decode cX6_goesBy 237 = .ok (.iload_n 1, 1) := by decide +kernel
theorem dX6_goesBy_238 : decode cX6_goesBy 238 = .ok (.iaload, 1) := by decide +kernel
theorem dX6_goesBy_239 : decode cX6_goesBy 239 = .ok (.iconst (-1), 1) := by decide +kernel
theorem dX6_goesBy_240 : decode cX6_goesBy 240 = .ok (.if_icmp .ne 13, 3) := by decide +kernel
theorem dX6_goesBy_243 : decode cX6_goesBy 243 = .ok (.aload_n 0, 1) := by decide +kernel
theorem dX6_goesBy_244 : decode cX6_goesBy 244 = .ok (.getfield 35, 3) := by decide +kernel
theorem dX6_goesBy_247 : decode cX6_goesBy 247 = .ok (.iload_n 1, 1) := by decide +kernel
theorem dX6_goesBy_248 : decode cX6_goesBy 248 = .ok (.aload_n 0, 1) := by decide +kernel
theorem dX6_goesBy_249 : decode cX6_goesBy 249 = .ok (.getfield 251, 3) := by decide +kernel
theorem dX6_goesBy_252 : decode cX6_goesBy 252 = .ok (.iastore, 1) := by decide +kernel
theorem dX6_goesBy_253 : decode cX6_goesBy 253 = .ok (.iinc 1 1, 3) := by decide +kernel
theorem dX6_goesBy_256 : decode cX6_goesBy 256 = .ok (.goto (-158), 3) := by decide +kernel
theorem dX6_goesBy_259 : decode cX6_goesBy 259 = .ok (.aload_n 0, 1) := by decide +kernel
theorem dX6_goesBy_260 : decode cX6_goesBy 260 = .ok (.aload_n 0, 1) := by decide +kernel
theorem dX6_goesBy_261 : decode cX6_goesBy 261 = .ok (.getfield 251, 3) := by decide +kernel
theorem dX6_goesBy_264 : decode cX6_goesBy 264 = .ok (.iconst 1, 1) := by decide +kernel
theorem dX6_goesBy_265 : decode cX6_goesBy 265 = .ok (.iadd, 1) := by decide +kernel
theorem dX6_goesBy_266 : decode cX6_goesBy 266 = .ok (.putfield 251, 3) := by decide +kernel
theorem dX6_goesBy_269 : decode cX6_goesBy 269 = .ok (.return_, 1) := by decide +kernel
set_option maxRecDepth 20000 in
theorem ggX6_nights_X6_isIn : GoodIn wsX6_nights wsX6_isIn := goodIn_r _ [8] rfl (by decide +kernel)
set_option maxRecDepth 20000 in
theorem gX6_nights_X6_isIn : GoodIn wsX6_nights (wsV RX6 129 RX6 yX6_isIn wsX6_isIn) := goodIn_app (goodIn_of _ (by decide +kernel)) ggX6_nights_X6_isIn
set_option maxRecDepth 20000 in
theorem ggX6_nights_X6_goesBy : GoodIn wsX6_nights wsX6_goesBy := goodIn_r _ [12, 13, 14, 15, 16, 17, 18, 19, 20, 21, 2, 22, 23, 24, 7, 25, 26, 27, 28, 29, 30, 31, 32, 33, 34, 35, 36, 37, 38, 39, 40, 41, 42, 43, 44, 45, 46, 47, 48, 49, 50, 51, 52, 53, 54, 55, 56, 57, 58, 59, 60, 61, 62, 63, 64, 65, 66, 67, 68, 69, 70, 71, 72, 3, 73, 74, 75, 76, 77, 78, 79, 80, 81, 82, 83, 84, 85, 86, 87, 88, 89, 90, 91, 92, 93, 94, 95, 96, 97, 98, 99, 100, 101, 102, 103, 104, 105, 106, 107, 108, 109, 110, 111, 112, 113, 114, 115, 116, 117, 118, 119, 120, 121, 122, 123, 124, 125, 126, 127, 128, 129, 130, 131, 132, 133, 134, 135, 136, 137, 138] rfl (by decide +kernel)
set_option maxRecDepth 20000 in
theorem gX6_nights_X6_goesBy : GoodIn wsX6_nights (wsV RX6 273 RX6 yX6_goesBy wsX6_goesBy) := goodIn_app (goodIn_of _ (by decide +kernel)) ggX6_nights_X6_goesBy
theorem dX6_nights_0 : decode cX6_nights 0 = .ok (.aload_n 0, 1) := by decide +kernel
theorem dX6_nights_1 : decode cX6_nights 1 = .ok (.iconst 0, 1) := by decide +kernel
theorem dX6_nights_2 : decode cX6_nights 2 = .ok (.putfield 121, 3) := by decide +kernel
theorem dX6_nights_5 : decode cX6_nights 5 = .ok (.aload_n 0, 1) := by decide +kernel
theorem dX6_nights_6 : decode cX6_nights 6 = .ok (.iload_n 1, 1) := by decide +kernel
theorem dX6_nights_7 : decode cX6_nights 7 = .ok (.iconst 1, 1) := by decide +kernel
theorem dX6_nights_8 : decode cX6_nights 8 = .ok (.bipush 99, 2) := by decide +kernel
theorem dX6_nights_10 : decode cX6_nights 10 = .ok (.invokevirtual 129, 3) := by decide +kernel
theorem dX6_nights_13 : decode cX6_nights 13 = .ok (.ifCond .eq 15, 3) := by decide +kernel
theorem dX6_nights_16 : decode cX6_nights 16 = .ok (.aload_n 0, 1) := by decide +kernel
theorem dX6_nights_17 : decode cX6_nights 17 = .ok (.getfield 251, 3) := by decide +kernel
theorem dX6_nights_20 : decode cX6_nights 20 = .ok (.iload_n 1, 1) := by decide +kernel
theorem dX6_nights_21 : decode cX6_nights 21 = .ok (.iadd, 1) := by decide +kernel
theorem dX6_nights_22 : decode cX6_nights 22 = .ok (.sipush 9999, 3) := by decide +kernel
theorem dX6_nights_25 : decode cX6_nights 25 = .ok (.if_icmp .le 5, 3) := by decide +kernel
theorem dX6_nights_28 : decode cX6_nights 28 = .ok (.iconst (-1), 1) := by decide +kernel
theorem dX6_nights_29 : decode cX6_nights 29 = .ok (.ireturn, 1) := by decide +kernel
theorem dX6_nights_30 : decode cX6_nights 30 = .ok (.aload_n 0, 1) := by decide +kernel
theorem dX6_nights_31 : decode cX6_nights 31 = .ok (.getfield 263, 3) := by decide +kernel
theorem dX6_nights_34 : decode cX6_nights 34 = .ok (.istore_n 2, 1) := by decide +kernel
theorem dX6_nights_35 : decode cX6_nights 35 = .ok (.iconst 0, 1) := by decide +kernel
theorem dX6_nights_36 : decode cX6_nights 36 = .ok (.istore_n 3, 1) := by decide +kernel
theorem dX6_nights_37 : decode cX6_nights 37 = .ok (.iload_n 3, 1) := by decide +kernel
theorem dX6_nights_38 : decode cX6_nights 38 = .ok (.iload_n 1, 1) := by decide +kernel
theorem dX6_nights_39 : decode cX6_nights 39 = .ok (.if_icmp .ge 13, 3) := by decide +kernel
theorem dX6_nights_42 : decode cX6_nights 42 = .ok (.aload_n 0, 1) := by decide +kernel
theorem dX6_nights_43 : decode cX6_nights 43 = .ok (.invokevirtual 273, 3) := by decide +kernel
theorem dX6_nights_46 : decode cX6_nights 46 = .ok (.iinc 3 1, 3) := by decide +kernel
theorem dX6_nights_49 : decode cX6_nights 49 = .ok (.goto (-12), 3) := by decide +kernel
theorem dX6_nights_52 : decode cX6_nights 52 = .ok (.aload_n 0, 1) := by decide +kernel
theorem dX6_nights_53 : decode cX6_nights 53 = .ok (.getfield 263, 3) := by decide +kernel
theorem dX6_nights_56 : decode cX6_nights 56 = .ok (.iload_n 2, 1) := by decide +kernel
theorem dX6_nights_57 : decode cX6_nights 57 = .ok (.isub, 1) := by decide +kernel
theorem dX6_nights_58 : decode cX6_nights 58 = .ok (.ireturn, 1) := by decide +kernel
set_option maxRecDepth 20000 in
theorem ggX6_of_X6_isFarm : GoodIn wsX6_of wsX6_isFarm := goodIn_r _ [15, 16, 60, 61, 62, 63, 64, 65, 66, 67, 68, 69, 70, 71, 72, 73, 74, 75, 76, 77, 78, 79, 80, 81, 82, 83, 84, 85, 86, 87, 88, 89, 90, 91, 92, 93, 94, 95, 96, 97, 98, 99, 100, 101, 102, 103, 104, 105, 106, 107, 108, 109, 110, 111, 112, 113, 114] rfl (by decide +kernel)
set_option maxRecDepth 20000 in
theorem gX6_of_X6_isFarm : GoodIn wsX6_of (wsV RX6 133 RX6 yX6_isFarm wsX6_isFarm) := goodIn_app (goodIn_of _ (by decide +kernel)) ggX6_of_X6_isFarm
set_option maxRecDepth 20000 in
theorem ggX6_of_X6_doingOf : GoodIn wsX6_of wsX6_doingOf := goodIn_r _ [20, 3, 21, 22, 23, 8, 6, 5, 24, 7, 4, 25, 26, 27, 14, 28, 16, 29, 30, 31, 32, 33, 34, 35, 36, 37, 38, 39, 40, 41, 42, 43, 44, 45, 46, 47, 48, 49, 50, 51, 52, 53, 54, 55, 56, 57, 58, 59, 60, 61, 62, 63, 64, 65, 66, 67, 68, 69, 70, 71, 72, 73, 74, 75, 76, 77, 78, 79, 80, 81, 82, 83, 84, 85, 86, 87, 88, 89, 90, 91, 92, 93, 94, 95, 96, 97, 98, 99, 100, 101, 102, 103, 104, 105, 106, 107, 108, 109, 110, 111, 112, 113, 114] rfl (by decide +kernel)
set_option maxRecDepth 20000 in
theorem gX6_of_X6_doingOf : GoodIn wsX6_of (wsV RX6 266 RX6 yX6_doingOf wsX6_doingOf) := goodIn_app (goodIn_of _ (by decide +kernel)) ggX6_of_X6_doingOf
theorem dX6_of_0 : decode cX6_of 0 = .ok (.aload_n 0, 1) := by decide +kernel
theorem dX6_of_1 : decode cX6_of 1 = .ok (.iconst 0, 1) := by decide +kernel
theorem dX6_of_2 : decode cX6_of 2 = .ok (.putfield 121, 3) := by decide +kernel
theorem dX6_of_5 : decode cX6_of 5 = .ok (.aload_n 0, 1) := by decide +kernel
theorem dX6_of_6 : decode cX6_of 6 = .ok (.iload_n 1, 1) := by decide +kernel
theorem dX6_of_7 : decode cX6_of 7 = .ok (.invokevirtual 133, 3) := by decide +kernel
theorem dX6_of_10 : decode cX6_of 10 = .ok (.ifCond .ne 7, 3) := by decide +kernel
theorem dX6_of_13 : decode cX6_of 13 = .ok (.ldc_w 276, 3) := by decide +kernel
theorem dX6_of_16 : decode cX6_of 16 = .ok (.ireturn, 1) := by decide +kernel
theorem dX6_of_17 : decode cX6_of 17 = .ok (.iload_n 2, 1) := by decide +kernel
theorem dX6_of_18 : decode cX6_of 18 = .ok (.ifCond .ne 10, 3) := by decide +kernel
theorem dX6_of_21 : decode cX6_of 21 = .ok (.aload_n 0, 1) := by decide +kernel
theorem dX6_of_22 : decode cX6_of 22 = .ok (.getfield 13, 3) := by decide +kernel
theorem dX6_of_25 : decode cX6_of 25 = .ok (.iload_n 1, 1) := by decide +kernel
theorem dX6_of_26 : decode cX6_of 26 = .ok (.iaload, 1) := by decide +kernel
theorem dX6_of_27 : decode cX6_of 27 = .ok (.ireturn, 1) := by decide +kernel
theorem dX6_of_28 : decode cX6_of 28 = .ok (.iload_n 2, 1) := by decide +kernel
theorem dX6_of_29 : decode cX6_of 29 = .ok (.iconst 1, 1) := by decide +kernel
theorem dX6_of_30 : decode cX6_of 30 = .ok (.if_icmp .ne 10, 3) := by decide +kernel
theorem dX6_of_33 : decode cX6_of 33 = .ok (.aload_n 0, 1) := by decide +kernel
theorem dX6_of_34 : decode cX6_of 34 = .ok (.getfield 17, 3) := by decide +kernel
theorem dX6_of_37 : decode cX6_of 37 = .ok (.iload_n 1, 1) := by decide +kernel
theorem dX6_of_38 : decode cX6_of 38 = .ok (.iaload, 1) := by decide +kernel
theorem dX6_of_39 : decode cX6_of 39 = .ok (.ireturn, 1) := by decide +kernel
theorem dX6_of_40 : decode cX6_of 40 = .ok (.iload_n 2, 1) := by decide +kernel
theorem dX6_of_41 : decode cX6_of 41 = .ok (.iconst 2, 1) := by decide +kernel
theorem dX6_of_42 : decode cX6_of 42 = .ok (.if_icmp .ne 10, 3) := by decide +kernel
theorem dX6_of_45 : decode cX6_of 45 = .ok (.aload_n 0, 1) := by decide +kernel
theorem dX6_of_46 : decode cX6_of 46 = .ok (.getfield 20, 3) := by decide +kernel
theorem dX6_of_49 : decode cX6_of 49 = .ok (.iload_n 1, 1) := by decide +kernel
theorem dX6_of_50 : decode cX6_of 50 = .ok (.iaload, 1) := by decide +kernel
theorem dX6_of_51 : decode cX6_of 51 = .ok (.ireturn, 1) := by decide +kernel
theorem dX6_of_52 : decode cX6_of 52 = .ok (.iload_n 2, 1) := by decide +kernel
theorem dX6_of_53 : decode cX6_of 53 = .ok (.iconst 3, 1) := by decide +kernel
theorem dX6_of_54 : decode cX6_of 54 = .ok (.if_icmp .ne 10, 3) := by decide +kernel
theorem dX6_of_57 : decode cX6_of 57 = .ok (.aload_n 0, 1) := by decide +kernel
theorem dX6_of_58 : decode cX6_of 58 = .ok (.getfield 23, 3) := by decide +kernel
theorem dX6_of_61 : decode cX6_of 61 = .ok (.iload_n 1, 1) := by decide +kernel
theorem dX6_of_62 : decode cX6_of 62 = .ok (.iaload, 1) := by decide +kernel
theorem dX6_of_63 : decode cX6_of 63 = .ok (.ireturn, 1) := by decide +kernel
theorem dX6_of_64 : decode cX6_of 64 = .ok (.iload_n 2, 1) := by decide +kernel
theorem dX6_of_65 : decode cX6_of 65 = .ok (.iconst 4, 1) := by decide +kernel
theorem dX6_of_66 : decode cX6_of 66 = .ok (.if_icmp .ne 10, 3) := by decide +kernel
theorem dX6_of_69 : decode cX6_of 69 = .ok (.aload_n 0, 1) := by decide +kernel
theorem dX6_of_70 : decode cX6_of 70 = .ok (.getfield 26, 3) := by decide +kernel
theorem dX6_of_73 : decode cX6_of 73 = .ok (.iload_n 1, 1) := by decide +kernel
theorem dX6_of_74 : decode cX6_of 74 = .ok (.iaload, 1) := by decide +kernel
theorem dX6_of_75 : decode cX6_of 75 = .ok (.ireturn, 1) := by decide +kernel
theorem dX6_of_76 : decode cX6_of 76 = .ok (.iload_n 2, 1) := by decide +kernel
theorem dX6_of_77 : decode cX6_of 77 = .ok (.iconst 5, 1) := by decide +kernel
theorem dX6_of_78 : decode cX6_of 78 = .ok (.if_icmp .ne 10, 3) := by decide +kernel
theorem dX6_of_81 : decode cX6_of 81 = .ok (.aload_n 0, 1) := by decide +kernel
theorem dX6_of_82 : decode cX6_of 82 = .ok (.getfield 29, 3) := by decide +kernel
theorem dX6_of_85 : decode cX6_of 85 = .ok (.iload_n 1, 1) := by decide +kernel
theorem dX6_of_86 : decode cX6_of 86 = .ok (.iaload, 1) := by decide +kernel
theorem dX6_of_87 : decode cX6_of 87 = .ok (.ireturn, 1) := by decide +kernel
theorem dX6_of_88 : decode cX6_of 88 = .ok (.iload_n 2, 1) := by decide +kernel
theorem dX6_of_89 : decode cX6_of 89 = .ok (.bipush 6, 2) := by decide +kernel
theorem dX6_of_91 : decode cX6_of 91 = .ok (.if_icmp .ne 10, 3) := by decide +kernel
theorem dX6_of_94 : decode cX6_of 94 = .ok (.aload_n 0, 1) := by decide +kernel
theorem dX6_of_95 : decode cX6_of 95 = .ok (.getfield 32, 3) := by decide +kernel
theorem dX6_of_98 : decode cX6_of 98 = .ok (.iload_n 1, 1) := by decide +kernel
theorem dX6_of_99 : decode cX6_of 99 = .ok (.iaload, 1) := by decide +kernel
theorem dX6_of_100 : decode cX6_of 100 = .ok (.ireturn, 1) := by decide +kernel
theorem dX6_of_101 : decode cX6_of 101 = .ok (.iload_n 2, 1) := by decide +kernel
theorem dX6_of_102 : decode cX6_of 102 = .ok (.bipush 7, 2) := by decide +kernel
theorem dX6_of_104 : decode cX6_of 104 = .ok (.if_icmp .ne 10, 3) := by decide +kernel
theorem dX6_of_107 : decode cX6_of 107 = .ok (.aload_n 0, 1) := by decide +kernel
theorem dX6_of_108 : decode cX6_of 108 = .ok (.getfield 35, 3) := by decide +kernel
theorem dX6_of_111 : decode cX6_of 111 = .ok (.iload_n 1, 1) := by decide +kernel
theorem dX6_of_112 : decode cX6_of 112 = .ok (.iaload, 1) := by decide +kernel
theorem dX6_of_113 : decode cX6_of 113 = .ok (.ireturn, 1) := by decide +kernel
theorem dX6_of_114 : decode cX6_of 114 = .ok (.iload_n 2, 1) := by decide +kernel
theorem dX6_of_115 : decode cX6_of 115 = .ok (.bipush 8, 2) := by decide +kernel
theorem dX6_of_117 : decode cX6_of 117 = .ok (.if_icmp .ne 11, 3) := by decide +kernel
theorem dX6_of_120 : decode cX6_of 120 = .ok (.aload_n 0, 1) := by decide +kernel
theorem dX6_of_121 : decode cX6_of 121 = .ok (.iload_n 1, 1) := by decide +kernel
theorem dX6_of_122 : decode cX6_of 122 = .ok (.invokevirtual 266, 3) := by decide +kernel
theorem dX6_of_125 : decode cX6_of 125 = .ok (.goto 6, 3) := by decide +kernel
theorem dX6_of_128 : decode cX6_of 128 = .ok (.ldc_w 276, 3) := by decide +kernel
theorem dX6_of_131 : decode cX6_of 131 = .ok (.ireturn, 1) := by decide +kernel
set_option maxRecDepth 20000 in
theorem ggX6_stake_X6_isFarm : GoodIn wsX6_stake wsX6_isFarm := goodIn_r _ [10, 11, 12, 13, 14, 15, 16, 17, 18, 19, 20, 21, 22, 23, 24, 25, 26, 27, 28, 29, 30, 31, 32, 33, 34, 35, 36, 37, 38, 39, 40, 41, 42, 43, 44, 45, 46, 47, 48, 49, 50, 51, 52, 53, 54, 55, 56, 57, 58, 59, 60, 61, 62, 63, 64, 65, 66] rfl (by decide +kernel)
set_option maxRecDepth 20000 in
theorem gX6_stake_X6_isFarm : GoodIn wsX6_stake (wsV RX6 133 RX6 yX6_isFarm wsX6_isFarm) := goodIn_app (goodIn_of _ (by decide +kernel)) ggX6_stake_X6_isFarm
theorem dX6_stake_0 : decode cX6_stake 0 = .ok (.aload_n 0, 1) := by decide +kernel
theorem dX6_stake_1 : decode cX6_stake 1 = .ok (.iconst 0, 1) := by decide +kernel
theorem dX6_stake_2 : decode cX6_stake 2 = .ok (.putfield 121, 3) := by decide +kernel
theorem dX6_stake_5 : decode cX6_stake 5 = .ok (.aload_n 0, 1) := by decide +kernel
theorem dX6_stake_6 : decode cX6_stake 6 = .ok (.iload_n 1, 1) := by decide +kernel
theorem dX6_stake_7 : decode cX6_stake 7 = .ok (.invokevirtual 133, 3) := by decide +kernel
theorem dX6_stake_10 : decode cX6_stake 10 = .ok (.ifCond .ne 6, 3) := by decide +kernel
theorem dX6_stake_13 : decode cX6_stake 13 = .ok (.bipush (-2), 2) := by decide +kernel
theorem dX6_stake_15 : decode cX6_stake 15 = .ok (.ireturn, 1) := by decide +kernel
theorem dX6_stake_16 : decode cX6_stake 16 = .ok (.iload_n 2, 1) := by decide +kernel
theorem dX6_stake_17 : decode cX6_stake 17 = .ok (.ifCond .ne 12, 3) := by decide +kernel
theorem dX6_stake_20 : decode cX6_stake 20 = .ok (.aload_n 0, 1) := by decide +kernel
theorem dX6_stake_21 : decode cX6_stake 21 = .ok (.getfield 38, 3) := by decide +kernel
theorem dX6_stake_24 : decode cX6_stake 24 = .ok (.iload_n 1, 1) := by decide +kernel
theorem dX6_stake_25 : decode cX6_stake 25 = .ok (.iaload, 1) := by decide +kernel
theorem dX6_stake_26 : decode cX6_stake 26 = .ok (.goto 47, 3) := by decide +kernel
theorem dX6_stake_29 : decode cX6_stake 29 = .ok (.iload_n 2, 1) := by decide +kernel
theorem dX6_stake_30 : decode cX6_stake 30 = .ok (.iconst 1, 1) := by decide +kernel
theorem dX6_stake_31 : decode cX6_stake 31 = .ok (.if_icmp .ne 12, 3) := by decide +kernel
theorem dX6_stake_34 : decode cX6_stake 34 = .ok (.aload_n 0, 1) := by decide +kernel
theorem dX6_stake_35 : decode cX6_stake 35 = .ok (.getfield 41, 3) := by decide +kernel
theorem dX6_stake_38 : decode cX6_stake 38 = .ok (.iload_n 1, 1) := by decide +kernel
theorem dX6_stake_39 : decode cX6_stake 39 = .ok (.iaload, 1) := by decide +kernel
theorem dX6_stake_40 : decode cX6_stake 40 = .ok (.goto 33, 3) := by decide +kernel
theorem dX6_stake_43 : decode cX6_stake 43 = .ok (.iload_n 2, 1) := by decide +kernel
theorem dX6_stake_44 : decode cX6_stake 44 = .ok (.iconst 2, 1) := by decide +kernel
theorem dX6_stake_45 : decode cX6_stake 45 = .ok (.if_icmp .ne 12, 3) := by decide +kernel
theorem dX6_stake_48 : decode cX6_stake 48 = .ok (.aload_n 0, 1) := by decide +kernel
theorem dX6_stake_49 : decode cX6_stake 49 = .ok (.getfield 44, 3) := by decide +kernel
theorem dX6_stake_52 : decode cX6_stake 52 = .ok (.iload_n 1, 1) := by decide +kernel
theorem dX6_stake_53 : decode cX6_stake 53 = .ok (.iaload, 1) := by decide +kernel
theorem dX6_stake_54 : decode cX6_stake 54 = .ok (.goto 19, 3) := by decide +kernel
theorem dX6_stake_57 : decode cX6_stake 57 = .ok (.iload_n 2, 1) := by decide +kernel
theorem dX6_stake_58 : decode cX6_stake 58 = .ok (.iconst 3, 1) := by decide +kernel
theorem dX6_stake_59 : decode cX6_stake 59 = .ok (.if_icmp .ne 12, 3) := by decide +kernel
theorem dX6_stake_62 : decode cX6_stake 62 = .ok (.aload_n 0, 1) := by decide +kernel
theorem dX6_stake_63 : decode cX6_stake 63 = .ok (.getfield 47, 3) := by decide +kernel
theorem dX6_stake_66 : decode cX6_stake 66 = .ok (.iload_n 1, 1) := by decide +kernel
theorem dX6_stake_67 : decode cX6_stake 67 = .ok (.iaload, 1) := by decide +kernel
theorem dX6_stake_68 : decode cX6_stake 68 = .ok (.goto 5, 3) := by decide +kernel
theorem dX6_stake_71 : decode cX6_stake 71 = .ok (.bipush (-2), 2) := by decide +kernel
theorem dX6_stake_73 : decode cX6_stake 73 = .ok (.ireturn, 1) := by decide +kernel
theorem dX6_takesRow_0 : decode cX6_takesRow 0 = .ok (.iload_n 1, 1) := by decide +kernel
theorem dX6_takesRow_1 : decode cX6_takesRow 1 = .ok (.istore_n 2, 1) := by decide +kernel
theorem dX6_takesRow_2 : decode cX6_takesRow 2 = .ok (.aload_n 0, 1) := by decide +kernel
theorem dX6_takesRow_3 : decode cX6_takesRow 3 = .ok (.getfield 7, 3) := by decide +kernel
theorem dX6_takesRow_6 : decode cX6_takesRow 6 = .ok (.iconst 1, 1) := by decide +kernel
theorem dX6_takesRow_7 : decode cX6_takesRow 7 = .ok (.isub, 1) := by decide +kernel
theorem dX6_takesRow_8 : decode cX6_takesRow 8 = .ok (.istore_n 3, 1) := by decide +kernel
theorem dX6_takesRow_9 : decode cX6_takesRow 9 = .ok (.iload_n 3, 1) := by decide +kernel
theorem dX6_takesRow_10 : decode cX6_takesRow 10 = .ok (.ifCond .lt 22, 3) := by decide +kernel
theorem dX6_takesRow_13 : decode cX6_takesRow 13 = .ok (.aload_n 0, 1) := by decide +kernel
theorem dX6_takesRow_14 : decode cX6_takesRow 14 = .ok (.getfield 99, 3) := by decide +kernel
theorem dX6_takesRow_17 : decode cX6_takesRow 17 = .ok (.iload_n 3, 1) := by decide +kernel
theorem dX6_takesRow_18 : decode cX6_takesRow 18 = .ok (.iload_n 2, 1) := by decide +kernel
theorem dX6_takesRow_19 : decode cX6_takesRow 19 = .ok (.iconst 4, 1) := by decide +kernel
theorem dX6_takesRow_20 : decode cX6_takesRow 20 = .ok (.irem, 1) := by decide +kernel
theorem dX6_takesRow_21 : decode cX6_takesRow 21 = .ok (.iastore, 1) := by decide +kernel
theorem dX6_takesRow_22 : decode cX6_takesRow 22 = .ok (.iload_n 2, 1) := by decide +kernel
theorem dX6_takesRow_23 : decode cX6_takesRow 23 = .ok (.iconst 4, 1) := by decide +kernel
theorem dX6_takesRow_24 : decode cX6_takesRow 24 = .ok (.idiv, 1) := by decide +kernel
theorem dX6_takesRow_25 : decode cX6_takesRow 25 = .ok (.istore_n 2, 1) := by decide +kernel
theorem dX6_takesRow_26 : decode cX6_takesRow 26 = .ok (.iinc 3 (-1), 3) := by decide +kernel
theorem dX6_takesRow_29 : decode cX6_takesRow 29 = .ok (.goto (-20), 3) := by decide +kernel
theorem dX6_takesRow_32 : decode cX6_takesRow 32 = .ok (.return_, 1) := by decide +kernel
set_option maxRecDepth 20000 in
theorem ggX6_canMove_X6_rightOf : GoodIn wsX6_canMove wsX6_rightOf := goodIn_r _ [8, 9, 10, 11, 12, 13, 14, 15, 16, 17, 18, 19, 20, 21, 22, 23, 24, 25, 26, 27, 28, 29, 30, 31, 32, 33, 34, 35, 36, 37, 38, 39, 40, 41, 42, 43, 44, 45, 46, 47, 48, 49, 50, 51, 52, 53, 54, 55, 56, 57, 58, 59, 60, 61, 62, 63, 64] rfl (by decide +kernel)
set_option maxRecDepth 20000 in
theorem gX6_canMove_X6_rightOf : GoodIn wsX6_canMove (wsV RX6 248 RX6 yX6_rightOf wsX6_rightOf) := goodIn_app (goodIn_of _ (by decide +kernel)) ggX6_canMove_X6_rightOf
theorem dX6_canMove_0 : decode cX6_canMove 0 = .ok (.aload_n 0, 1) := by decide +kernel
theorem dX6_canMove_1 : decode cX6_canMove 1 = .ok (.getfield 38, 3) := by decide +kernel
theorem dX6_canMove_4 : decode cX6_canMove 4 = .ok (.iload_n 1, 1) := by decide +kernel
theorem dX6_canMove_5 : decode cX6_canMove 5 = .ok (.iaload, 1) := by decide +kernel
theorem dX6_canMove_6 : decode cX6_canMove 6 = .ok (.ifCond .ne 39, 3) := by decide +kernel
theorem dX6_canMove_9 : decode cX6_canMove 9 = .ok (.aload_n 0, 1) := by decide +kernel
theorem dX6_canMove_10 : decode cX6_canMove 10 = .ok (.getfield 53, 3) := by decide +kernel
theorem dX6_canMove_13 : decode cX6_canMove 13 = .ok (.bipush 9, 2) := by decide +kernel
theorem dX6_canMove_15 : decode cX6_canMove 15 = .ok (.iaload, 1) := by decide +kernel
theorem dX6_canMove_16 : decode cX6_canMove 16 = .ok (.ifCond .le 29, 3) := by decide +kernel
theorem dX6_canMove_19 : decode cX6_canMove 19 = .ok (.aload_n 0, 1) := by decide +kernel
theorem dX6_canMove_20 : decode cX6_canMove 20 = .ok (.getfield 13, 3) := by decide +kernel
theorem dX6_canMove_23 : decode cX6_canMove 23 = .ok (.iload_n 1, 1) := by decide +kernel
theorem dX6_canMove_24 : decode cX6_canMove 24 = .ok (.iaload, 1) := by decide +kernel
theorem dX6_canMove_25 : decode cX6_canMove 25 = .ok (.ifCond .le 20, 3) := by decide +kernel
theorem dX6_canMove_28 : decode cX6_canMove 28 = .ok (.aload_n 0, 1) := by decide +kernel
theorem dX6_canMove_29 : decode cX6_canMove 29 = .ok (.getfield 13, 3) := by decide +kernel
theorem dX6_canMove_32 : decode cX6_canMove 32 = .ok (.aload_n 0, 1) := by decide +kernel
theorem dX6_canMove_33 : decode cX6_canMove 33 = .ok (.iload_n 1, 1) := by decide +kernel
theorem dX6_canMove_34 : decode cX6_canMove 34 = .ok (.invokevirtual 248, 3) := by decide +kernel
theorem dX6_canMove_37 : decode cX6_canMove 37 = .ok (.iaload, 1) := by decide +kernel
theorem dX6_canMove_38 : decode cX6_canMove 38 = .ok (.ifCond .le 7, 3) := by decide +kernel
theorem dX6_canMove_41 : decode cX6_canMove 41 = .ok (.iconst 1, 1) := by decide +kernel
theorem dX6_canMove_42 : decode cX6_canMove 42 = .ok (.goto 4, 3) := by decide +kernel
theorem dX6_canMove_45 : decode cX6_canMove 45 = .ok (.iconst 0, 1) := by decide +kernel
theorem dX6_canMove_46 : decode cX6_canMove 46 = .ok (.ireturn, 1) := by decide +kernel
theorem dX6_chanceOf_0 : decode cX6_chanceOf 0 = .ok (.iload_n 3, 1) := by decide +kernel
theorem dX6_chanceOf_1 : decode cX6_chanceOf 1 = .ok (.iconst 1, 1) := by decide +kernel
theorem dX6_chanceOf_2 : decode cX6_chanceOf 2 = .ok (.if_icmp .ne 17, 3) := by decide +kernel
theorem dX6_chanceOf_5 : decode cX6_chanceOf 5 = .ok (.sipush 1000, 3) := by decide +kernel
theorem dX6_chanceOf_8 : decode cX6_chanceOf 8 = .ok (.aload_n 0, 1) := by decide +kernel
theorem dX6_chanceOf_9 : decode cX6_chanceOf 9 = .ok (.getfield 53, 3) := by decide +kernel
theorem dX6_chanceOf_12 : decode cX6_chanceOf 12 = .ok (.bipush 7, 2) := by decide +kernel
theorem dX6_chanceOf_14 : decode cX6_chanceOf 14 = .ok (.iaload, 1) := by decide +kernel
theorem dX6_chanceOf_15 : decode cX6_chanceOf 15 = .ok (.isub, 1) := by decide +kernel
theorem dX6_chanceOf_16 : decode cX6_chanceOf 16 = .ok (.goto 30, 3) := by decide +kernel
theorem dX6_chanceOf_19 : decode cX6_chanceOf 19 = .ok (.aload_n 0, 1) := by decide +kernel
theorem dX6_chanceOf_20 : decode cX6_chanceOf 20 = .ok (.getfield 23, 3) := by decide +kernel
theorem dX6_chanceOf_23 : decode cX6_chanceOf 23 = .ok (.iload_n 2, 1) := by decide +kernel
theorem dX6_chanceOf_24 : decode cX6_chanceOf 24 = .ok (.iaload, 1) := by decide +kernel
theorem dX6_chanceOf_25 : decode cX6_chanceOf 25 = .ok (.iconst 1, 1) := by decide +kernel
theorem dX6_chanceOf_26 : decode cX6_chanceOf 26 = .ok (.if_icmp .ne 17, 3) := by decide +kernel
theorem dX6_chanceOf_29 : decode cX6_chanceOf 29 = .ok (.sipush 1000, 3) := by decide +kernel
theorem dX6_chanceOf_32 : decode cX6_chanceOf 32 = .ok (.aload_n 0, 1) := by decide +kernel
theorem dX6_chanceOf_33 : decode cX6_chanceOf 33 = .ok (.getfield 53, 3) := by decide +kernel
theorem dX6_chanceOf_36 : decode cX6_chanceOf 36 = .ok (.bipush 8, 2) := by decide +kernel
theorem dX6_chanceOf_38 : decode cX6_chanceOf 38 = .ok (.iaload, 1) := by decide +kernel
theorem dX6_chanceOf_39 : decode cX6_chanceOf 39 = .ok (.isub, 1) := by decide +kernel
theorem dX6_chanceOf_40 : decode cX6_chanceOf 40 = .ok (.goto 6, 3) := by decide +kernel
theorem dX6_chanceOf_43 : decode cX6_chanceOf 43 = .ok (.sipush 1000, 3) := by decide +kernel
theorem dX6_chanceOf_46 : decode cX6_chanceOf 46 = .ok (.istore 4, 2) := by decide +kernel
theorem dX6_chanceOf_48 : decode cX6_chanceOf 48 = .ok (.iload 4, 2) := by decide +kernel
theorem dX6_chanceOf_50 : decode cX6_chanceOf 50 = .ok (.aload_n 0, 1) := by decide +kernel
theorem dX6_chanceOf_51 : decode cX6_chanceOf 51 = .ok (.getfield 41, 3) := by decide +kernel
theorem dX6_chanceOf_54 : decode cX6_chanceOf 54 = .ok (.iload_n 1, 1) := by decide +kernel
theorem dX6_chanceOf_55 : decode cX6_chanceOf 55 = .ok (.iaload, 1) := by decide +kernel
theorem dX6_chanceOf_56 : decode cX6_chanceOf 56 = .ok (.iconst 1, 1) := by decide +kernel
theorem dX6_chanceOf_57 : decode cX6_chanceOf 57 = .ok (.iadd, 1) := by decide +kernel
theorem dX6_chanceOf_58 : decode cX6_chanceOf 58 = .ok (.idiv, 1) := by decide +kernel
theorem dX6_chanceOf_59 : decode cX6_chanceOf 59 = .ok (.ireturn, 1) := by decide +kernel
set_option maxRecDepth 20000 in
theorem ggX6_lossBy_X6_less : GoodIn wsX6_lossBy wsX6_less := goodIn_r _ [8] rfl (by decide +kernel)
set_option maxRecDepth 20000 in
theorem gX6_lossBy_X6_less : GoodIn wsX6_lossBy (wsV RX6 137 RX6 yX6_less wsX6_less) := goodIn_app (goodIn_of _ (by decide +kernel)) ggX6_lossBy_X6_less
set_option maxRecDepth 20000 in
theorem ggX6_lossBy_X6_canMove : GoodIn wsX6_lossBy wsX6_canMove := goodIn_r _ [12, 13, 1, 2, 14, 15, 16, 7, 17, 18, 29, 30, 31, 32, 33, 34, 35, 36, 37, 38, 39, 40, 41, 42, 43, 44, 45, 46, 47, 48, 49, 50, 51, 52, 53, 54, 55, 56, 57, 58, 59, 60, 61, 62, 63, 64, 65, 66, 67, 68, 69, 70, 71, 72, 73, 74, 75, 76, 77, 78, 79, 80, 81, 82, 83] rfl (by decide +kernel)
set_option maxRecDepth 20000 in
theorem gX6_lossBy_X6_canMove : GoodIn wsX6_lossBy (wsV RX6 277 RX6 yX6_canMove wsX6_canMove) := goodIn_app (goodIn_of _ (by decide +kernel)) ggX6_lossBy_X6_canMove
set_option maxRecDepth 20000 in
theorem ggX6_lossBy_X6_chanceOf : GoodIn wsX6_lossBy wsX6_chanceOf := goodIn_r _ [22, 1, 23, 24, 29, 30, 31, 32, 33, 34, 35, 36, 37, 38, 39, 40, 41, 42, 43, 44, 45, 46, 47, 48, 49, 50, 51, 52, 53, 54, 55, 56, 57, 58, 59, 60, 61, 62, 63, 64, 65, 66, 67, 68, 69, 70, 71, 72, 73, 74, 75, 76, 77, 78, 79, 80, 81, 82, 83] rfl (by decide +kernel)
set_option maxRecDepth 20000 in
theorem gX6_lossBy_X6_chanceOf : GoodIn wsX6_lossBy (wsV RX6 280 RX6 yX6_chanceOf wsX6_chanceOf) := goodIn_app (goodIn_of _ (by decide +kernel)) ggX6_lossBy_X6_chanceOf
set_option maxRecDepth 20000 in
theorem ggX6_lossBy_X6_worthOf : GoodIn wsX6_lossBy wsX6_worthOf := goodIn_r _ [28, 1, 4, 5, 6, 7, 8, 29, 30, 31, 32, 33, 34, 35, 36, 37, 38, 39, 40, 41, 42, 43, 44, 45, 46, 47, 48, 49, 50, 51, 52, 53, 54, 55, 56, 57, 58, 59, 60, 61, 62, 63, 64, 65, 66, 67, 68, 69, 70, 71, 72, 73, 74, 75, 76, 77, 78, 79, 80, 81, 82, 83] rfl (by decide +kernel)
set_option maxRecDepth 20000 in
theorem gX6_lossBy_X6_worthOf : GoodIn wsX6_lossBy (wsV RX6 141 RX6 yX6_worthOf wsX6_worthOf) := goodIn_app (goodIn_of _ (by decide +kernel)) ggX6_lossBy_X6_worthOf
theorem dX6_lossBy_0 : decode cX6_lossBy 0 = .ok (.aload_n 0, 1) := by decide +kernel
theorem dX6_lossBy_1 : decode cX6_lossBy 1 = .ok (.aload_n 0, 1) := by decide +kernel
theorem dX6_lossBy_2 : decode cX6_lossBy 2 = .ok (.getfield 53, 3) := by decide +kernel
theorem dX6_lossBy_5 : decode cX6_lossBy 5 = .ok (.bipush 9, 2) := by decide +kernel
theorem dX6_lossBy_7 : decode cX6_lossBy 7 = .ok (.iaload, 1) := by decide +kernel
theorem dX6_lossBy_8 : decode cX6_lossBy 8 = .ok (.aload_n 0, 1) := by decide +kernel
theorem dX6_lossBy_9 : decode cX6_lossBy 9 = .ok (.getfield 13, 3) := by decide +kernel
theorem dX6_lossBy_12 : decode cX6_lossBy 12 = .ok (.iload_n 1, 1) := by decide +kernel
theorem dX6_lossBy_13 : decode cX6_lossBy 13 = .ok (.iaload, 1) := by decide +kernel
theorem dX6_lossBy_14 : decode cX6_lossBy 14 = .ok (.invokevirtual 137, 3) := by decide +kernel
theorem dX6_lossBy_17 : decode cX6_lossBy 17 = .ok (.istore_n 3, 1) := by decide +kernel
theorem dX6_lossBy_18 : decode cX6_lossBy 18 = .ok (.aload_n 0, 1) := by decide +kernel
theorem dX6_lossBy_19 : decode cX6_lossBy 19 = .ok (.iload_n 2, 1) := by decide +kernel
theorem dX6_lossBy_20 : decode cX6_lossBy 20 = .ok (.invokevirtual 277, 3) := by decide +kernel
theorem dX6_lossBy_23 : decode cX6_lossBy 23 = .ok (.ifCond .eq 42, 3) := by decide +kernel
theorem dX6_lossBy_26 : decode cX6_lossBy 26 = .ok (.aload_n 0, 1) := by decide +kernel
theorem dX6_lossBy_27 : decode cX6_lossBy 27 = .ok (.iload_n 2, 1) := by decide +kernel
theorem dX6_lossBy_28 : decode cX6_lossBy 28 = .ok (.iload_n 1, 1) := by decide +kernel
theorem dX6_lossBy_29 : decode cX6_lossBy 29 = .ok (.aload_n 0, 1) := by decide +kernel
theorem dX6_lossBy_30 : decode cX6_lossBy 30 = .ok (.getfield 99, 3) := by decide +kernel
theorem dX6_lossBy_33 : decode cX6_lossBy 33 = .ok (.iload_n 1, 1) := by decide +kernel
theorem dX6_lossBy_34 : decode cX6_lossBy 34 = .ok (.iaload, 1) := by decide +kernel
theorem dX6_lossBy_35 : decode cX6_lossBy 35 = .ok (.invokevirtual 280, 3) := by decide +kernel
theorem dX6_lossBy_38 : decode cX6_lossBy 38 = .ok (.aload_n 0, 1) := by decide +kernel
theorem dX6_lossBy_39 : decode cX6_lossBy 39 = .ok (.aload_n 0, 1) := by decide +kernel
theorem dX6_lossBy_40 : decode cX6_lossBy 40 = .ok (.getfield 13, 3) := by decide +kernel
theorem dX6_lossBy_43 : decode cX6_lossBy 43 = .ok (.iload_n 1, 1) := by decide +kernel
theorem dX6_lossBy_44 : decode cX6_lossBy 44 = .ok (.iaload, 1) := by decide +kernel
theorem dX6_lossBy_45 : decode cX6_lossBy 45 = .ok (.invokevirtual 141, 3) := by decide +kernel
theorem dX6_lossBy_48 : decode cX6_lossBy 48 = .ok (.aload_n 0, 1) := by decide +kernel
theorem dX6_lossBy_49 : decode cX6_lossBy 49 = .ok (.aload_n 0, 1) := by decide +kernel
theorem dX6_lossBy_50 : decode cX6_lossBy 50 = .ok (.getfield 13, 3) := by decide +kernel
theorem dX6_lossBy_53 : decode cX6_lossBy 53 = .ok (.iload_n 1, 1) := by decide +kernel
theorem dX6_lossBy_54 : decode cX6_lossBy 54 = .ok (.iaload, 1) := by decide +kernel
theorem dX6_lossBy_55 : decode cX6_lossBy 55 = .ok (.iload_n 3, 1) := by decide +kernel
theorem dX6_lossBy_56 : decode cX6_lossBy 56 = .ok (.isub, 1) := by decide +kernel
theorem dX6_lossBy_57 : decode cX6_lossBy 57 = .ok (.invokevirtual 141, 3) := by decide +kernel
theorem dX6_lossBy_60 : decode cX6_lossBy 60 = .ok (.isub, 1) := by decide +kernel
theorem dX6_lossBy_61 : decode cX6_lossBy 61 = .ok (.imul, 1) := by decide +kernel
theorem dX6_lossBy_62 : decode cX6_lossBy 62 = .ok (.goto 4, 3) := by decide +kernel
theorem dX6_lossBy_65 : decode cX6_lossBy 65 = .ok (.iconst 0, 1) := by decide +kernel
theorem dX6_lossBy_66 : decode cX6_lossBy 66 = .ok (.ireturn, 1) := by decide +kernel
set_option maxRecDepth 20000 in
theorem ggX6_valueOf_X6_leftOf : GoodIn wsX6_valueOf wsX6_leftOf := goodIn_r _ [9, 10, 37, 38, 39, 40, 41, 42, 43, 44, 45, 46, 47, 48, 49, 50, 51, 52, 53, 54, 55, 56, 57, 58, 59, 60, 61, 62, 63, 64, 65, 66, 67, 68, 69, 70, 71, 72, 73, 74, 75, 76, 77, 78, 79, 80, 81, 82, 83, 84, 85, 86, 87, 88, 89, 90, 91] rfl (by decide +kernel)
set_option maxRecDepth 20000 in
theorem gX6_valueOf_X6_leftOf : GoodIn wsX6_valueOf (wsV RX6 245 RX6 yX6_leftOf wsX6_leftOf) := goodIn_app (goodIn_of _ (by decide +kernel)) ggX6_valueOf_X6_leftOf
set_option maxRecDepth 20000 in
theorem ggX6_valueOf_X6_rightOf : GoodIn wsX6_valueOf wsX6_rightOf := goodIn_r _ [14, 10, 37, 38, 39, 40, 41, 42, 43, 44, 45, 46, 47, 48, 49, 50, 51, 52, 53, 54, 55, 56, 57, 58, 59, 60, 61, 62, 63, 64, 65, 66, 67, 68, 69, 70, 71, 72, 73, 74, 75, 76, 77, 78, 79, 80, 81, 82, 83, 84, 85, 86, 87, 88, 89, 90, 91] rfl (by decide +kernel)
set_option maxRecDepth 20000 in
theorem gX6_valueOf_X6_rightOf : GoodIn wsX6_valueOf (wsV RX6 248 RX6 yX6_rightOf wsX6_rightOf) := goodIn_app (goodIn_of _ (by decide +kernel)) ggX6_valueOf_X6_rightOf
set_option maxRecDepth 20000 in
theorem ggX6_valueOf_X6_canMove : GoodIn wsX6_valueOf wsX6_canMove := goodIn_r _ [18, 19, 2, 4, 11, 12, 13, 8, 14, 10, 37, 38, 39, 40, 41, 42, 43, 44, 45, 46, 47, 48, 49, 50, 51, 52, 53, 54, 55, 56, 57, 58, 59, 60, 61, 62, 63, 64, 65, 66, 67, 68, 69, 70, 71, 72, 73, 74, 75, 76, 77, 78, 79, 80, 81, 82, 83, 84, 85, 86, 87, 88, 89, 90, 91] rfl (by decide +kernel)
set_option maxRecDepth 20000 in
theorem gX6_valueOf_X6_canMove : GoodIn wsX6_valueOf (wsV RX6 277 RX6 yX6_canMove wsX6_canMove) := goodIn_app (goodIn_of _ (by decide +kernel)) ggX6_valueOf_X6_canMove
set_option maxRecDepth 20000 in
theorem ggX6_valueOf_X6_chanceOf : GoodIn wsX6_valueOf wsX6_chanceOf := goodIn_r _ [23, 2, 1, 24, 37, 38, 39, 40, 41, 42, 43, 44, 45, 46, 47, 48, 49, 50, 51, 52, 53, 54, 55, 56, 57, 58, 59, 60, 61, 62, 63, 64, 65, 66, 67, 68, 69, 70, 71, 72, 73, 74, 75, 76, 77, 78, 79, 80, 81, 82, 83, 84, 85, 86, 87, 88, 89, 90, 91] rfl (by decide +kernel)
set_option maxRecDepth 20000 in
theorem gX6_valueOf_X6_chanceOf : GoodIn wsX6_valueOf (wsV RX6 280 RX6 yX6_chanceOf wsX6_chanceOf) := goodIn_app (goodIn_of _ (by decide +kernel)) ggX6_valueOf_X6_chanceOf
set_option maxRecDepth 20000 in
theorem ggX6_valueOf_X6_less : GoodIn wsX6_valueOf wsX6_less := goodIn_r _ [28] rfl (by decide +kernel)
set_option maxRecDepth 20000 in
theorem gX6_valueOf_X6_less : GoodIn wsX6_valueOf (wsV RX6 137 RX6 yX6_less wsX6_less) := goodIn_app (goodIn_of _ (by decide +kernel)) ggX6_valueOf_X6_less
set_option maxRecDepth 20000 in
theorem ggX6_valueOf_X6_worthOf : GoodIn wsX6_valueOf wsX6_worthOf := goodIn_r _ [32, 2, 25, 26, 27, 8, 28, 37, 38, 39, 40, 41, 42, 43, 44, 45, 46, 47, 48, 49, 50, 51, 52, 53, 54, 55, 56, 57, 58, 59, 60, 61, 62, 63, 64, 65, 66, 67, 68, 69, 70, 71, 72, 73, 74, 75, 76, 77, 78, 79, 80, 81, 82, 83, 84, 85, 86, 87, 88, 89, 90, 91] rfl (by decide +kernel)
set_option maxRecDepth 20000 in
theorem gX6_valueOf_X6_worthOf : GoodIn wsX6_valueOf (wsV RX6 141 RX6 yX6_worthOf wsX6_worthOf) := goodIn_app (goodIn_of _ (by decide +kernel)) ggX6_valueOf_X6_worthOf
set_option maxRecDepth 20000 in
theorem ggX6_valueOf_X6_lossBy : GoodIn wsX6_valueOf wsX6_lossBy := goodIn_r _ [36, 2, 4, 3, 25, 26, 27, 8, 28, 15, 16, 17, 18, 19, 11, 12, 13, 14, 10, 20, 21, 22, 23, 1, 24, 29, 30, 31, 32, 37, 38, 39, 40, 41, 42, 43, 44, 45, 46, 47, 48, 49, 50, 51, 52, 53, 54, 55, 56, 57, 58, 59, 60, 61, 62, 63, 64, 65, 66, 67, 68, 69, 70, 71, 72, 73, 74, 75, 76, 77, 78, 79, 80, 81, 82, 83, 84, 85, 86, 87, 88, 89, 90, 91] rfl (by decide +kernel)
set_option maxRecDepth 20000 in
theorem gX6_valueOf_X6_lossBy : GoodIn wsX6_valueOf (wsV RX6 283 RX6 yX6_lossBy wsX6_lossBy) := goodIn_app (goodIn_of _ (by decide +kernel)) ggX6_valueOf_X6_lossBy
theorem dX6_valueOf_0 : decode cX6_valueOf 0 = .ok (.aload_n 0, 1) := by decide +kernel
theorem dX6_valueOf_1 : decode cX6_valueOf 1 = .ok (.getfield 23, 3) := by decide +kernel
theorem dX6_valueOf_4 : decode cX6_valueOf 4 = .ok (.iload_n 1, 1) := by decide +kernel
theorem dX6_valueOf_5 : decode cX6_valueOf 5 = .ok (.iaload, 1) := by decide +kernel
theorem dX6_valueOf_6 : decode cX6_valueOf 6 = .ok (.iconst 1, 1) := by decide +kernel
theorem dX6_valueOf_7 : decode cX6_valueOf 7 = .ok (.if_icmp .ne 16, 3) := by decide +kernel
theorem dX6_valueOf_10 : decode cX6_valueOf 10 = .ok (.sipush (-1000), 3) := by decide +kernel
theorem dX6_valueOf_13 : decode cX6_valueOf 13 = .ok (.aload_n 0, 1) := by decide +kernel
theorem dX6_valueOf_14 : decode cX6_valueOf 14 = .ok (.getfield 53, 3) := by decide +kernel
theorem dX6_valueOf_17 : decode cX6_valueOf 17 = .ok (.iconst 5, 1) := by decide +kernel
theorem dX6_valueOf_18 : decode cX6_valueOf 18 = .ok (.iaload, 1) := by decide +kernel
theorem dX6_valueOf_19 : decode cX6_valueOf 19 = .ok (.imul, 1) := by decide +kernel
theorem dX6_valueOf_20 : decode cX6_valueOf 20 = .ok (.goto 4, 3) := by decide +kernel
theorem dX6_valueOf_23 : decode cX6_valueOf 23 = .ok (.iconst 0, 1) := by decide +kernel
theorem dX6_valueOf_24 : decode cX6_valueOf 24 = .ok (.istore_n 2, 1) := by decide +kernel
theorem dX6_valueOf_25 : decode cX6_valueOf 25 = .ok (.aload_n 0, 1) := by decide +kernel
theorem dX6_valueOf_26 : decode cX6_valueOf 26 = .ok (.getfield 99, 3) := by decide +kernel
theorem dX6_valueOf_29 : decode cX6_valueOf 29 = .ok (.iload_n 1, 1) := by decide +kernel
theorem dX6_valueOf_30 : decode cX6_valueOf 30 = .ok (.iaload, 1) := by decide +kernel
theorem dX6_valueOf_31 : decode cX6_valueOf 31 = .ok (.iconst 1, 1) := by decide +kernel
theorem dX6_valueOf_32 : decode cX6_valueOf 32 = .ok (.if_icmp .ne 16, 3) := by decide +kernel
theorem dX6_valueOf_35 : decode cX6_valueOf 35 = .ok (.iload_n 2, 1) := by decide +kernel
theorem dX6_valueOf_36 : decode cX6_valueOf 36 = .ok (.sipush 1000, 3) := by decide +kernel
theorem dX6_valueOf_39 : decode cX6_valueOf 39 = .ok (.aload_n 0, 1) := by decide +kernel
theorem dX6_valueOf_40 : decode cX6_valueOf 40 = .ok (.getfield 53, 3) := by decide +kernel
theorem dX6_valueOf_43 : decode cX6_valueOf 43 = .ok (.iconst 4, 1) := by decide +kernel
theorem dX6_valueOf_44 : decode cX6_valueOf 44 = .ok (.iaload, 1) := by decide +kernel
theorem dX6_valueOf_45 : decode cX6_valueOf 45 = .ok (.imul, 1) := by decide +kernel
theorem dX6_valueOf_46 : decode cX6_valueOf 46 = .ok (.isub, 1) := by decide +kernel
theorem dX6_valueOf_47 : decode cX6_valueOf 47 = .ok (.istore_n 2, 1) := by decide +kernel
theorem dX6_valueOf_48 : decode cX6_valueOf 48 = .ok (.aload_n 0, 1) := by decide +kernel
theorem dX6_valueOf_49 : decode cX6_valueOf 49 = .ok (.getfield 99, 3) := by decide +kernel
theorem dX6_valueOf_52 : decode cX6_valueOf 52 = .ok (.iload_n 1, 1) := by decide +kernel
theorem dX6_valueOf_53 : decode cX6_valueOf 53 = .ok (.iaload, 1) := by decide +kernel
theorem dX6_valueOf_54 : decode cX6_valueOf 54 = .ok (.iconst 1, 1) := by decide +kernel
theorem dX6_valueOf_55 : decode cX6_valueOf 55 = .ok (.if_icmp .le 16, 3) := by decide +kernel
theorem dX6_valueOf_58 : decode cX6_valueOf 58 = .ok (.iload_n 2, 1) := by decide +kernel
theorem dX6_valueOf_59 : decode cX6_valueOf 59 = .ok (.sipush 1000, 3) := by decide +kernel
theorem dX6_valueOf_62 : decode cX6_valueOf 62 = .ok (.aload_n 0, 1) := by decide +kernel
theorem dX6_valueOf_63 : decode cX6_valueOf 63 = .ok (.getfield 53, 3) := by decide +kernel
theorem dX6_valueOf_66 : decode cX6_valueOf 66 = .ok (.iconst 3, 1) := by decide +kernel
theorem dX6_valueOf_67 : decode cX6_valueOf 67 = .ok (.iaload, 1) := by decide +kernel
theorem dX6_valueOf_68 : decode cX6_valueOf 68 = .ok (.imul, 1) := by decide +kernel
theorem dX6_valueOf_69 : decode cX6_valueOf 69 = .ok (.isub, 1) := by decide +kernel
theorem dX6_valueOf_70 : decode cX6_valueOf 70 = .ok (.istore_n 2, 1) := by decide +kernel
theorem dX6_valueOf_71 : decode cX6_valueOf 71 = .ok (.aload_n 0, 1) := by decide +kernel
theorem dX6_valueOf_72 : decode cX6_valueOf 72 = .ok (.iload_n 1, 1) := by decide +kernel
theorem dX6_valueOf_73 : decode cX6_valueOf 73 = .ok (.invokevirtual 245, 3) := by decide +kernel
theorem dX6_valueOf_76 : decode cX6_valueOf 76 = .ok (.istore_n 3, 1) := by decide +kernel
theorem dX6_valueOf_77 : decode cX6_valueOf 77 = .ok (.aload_n 0, 1) := by decide +kernel
theorem dX6_valueOf_78 : decode cX6_valueOf 78 = .ok (.iload_n 1, 1) := by decide +kernel
theorem dX6_valueOf_79 : decode cX6_valueOf 79 = .ok (.invokevirtual 248, 3) := by decide +kernel
theorem dX6_valueOf_82 : decode cX6_valueOf 82 = .ok (.istore 4, 2) := by decide +kernel
theorem dX6_valueOf_84 : decode cX6_valueOf 84 = .ok (.aload_n 0, 1) := by decide +kernel
theorem dX6_valueOf_85 : decode cX6_valueOf 85 = .ok (.getfield 99, 3) := by decide +kernel
theorem dX6_valueOf_88 : decode cX6_valueOf 88 = .ok (.iload_n 1, 1) := by decide +kernel
theorem dX6_valueOf_89 : decode cX6_valueOf 89 = .ok (.iaload, 1) := by decide +kernel
theorem dX6_valueOf_90 : decode cX6_valueOf 90 = .ok (.iconst 1, 1) := by decide +kernel
theorem dX6_valueOf_91 : decode cX6_valueOf 91 = .ok (.if_icmp .le 129, 3) := by decide +kernel
theorem dX6_valueOf_94 : decode cX6_valueOf 94 = .ok (.aload_n 0, 1) := by decide +kernel
theorem dX6_valueOf_95 : decode cX6_valueOf 95 = .ok (.getfield 99, 3) := by decide +kernel
theorem dX6_valueOf_98 : decode cX6_valueOf 98 = .ok (.iload_n 1, 1) := by decide +kernel
theorem dX6_valueOf_99 : decode cX6_valueOf 99 = .ok (.iaload, 1) := by decide +kernel
theorem dX6_valueOf_100 : decode cX6_valueOf 100 = .ok (.iconst 2, 1) := by decide +kernel
theorem dX6_valueOf_101 : decode cX6_valueOf 101 = .ok (.if_icmp .ne 7, 3) := by decide +kernel
theorem dX6_valueOf_104 : decode cX6_valueOf 104 = .ok (.iload_n 3, 1) := by decide +kernel
theorem dX6_valueOf_105 : decode cX6_valueOf 105 = .ok (.goto 4, 3) := by decide +kernel
theorem dX6_valueOf_108 : decode cX6_valueOf 108 = .ok (.iload_n 1, 1) := by decide +kernel
theorem dX6_valueOf_109 : decode cX6_valueOf 109 = .ok (.istore 5, 2) := by decide +kernel
theorem dX6_valueOf_111 : decode cX6_valueOf 111 = .ok (.aload_n 0, 1) := by decide +kernel
theorem dX6_valueOf_112 : decode cX6_valueOf 112 = .ok (.getfield 99, 3) := by decide +kernel
theorem dX6_valueOf_115 : decode cX6_valueOf 115 = .ok (.iload_n 1, 1) := by decide +kernel
theorem dX6_valueOf_116 : decode cX6_valueOf 116 = .ok (.iaload, 1) := by decide +kernel
theorem dX6_valueOf_117 : decode cX6_valueOf 117 = .ok (.iconst 2, 1) := by decide +kernel
theorem dX6_valueOf_118 : decode cX6_valueOf 118 = .ok (.if_icmp .ne 7, 3) := by decide +kernel
theorem dX6_valueOf_121 : decode cX6_valueOf 121 = .ok (.iload_n 3, 1) := by decide +kernel
theorem dX6_valueOf_122 : decode cX6_valueOf 122 = .ok (.goto 5, 3) := by decide +kernel
theorem dX6_valueOf_125 : decode cX6_valueOf 125 = .ok (.iload 4, 2) := by decide +kernel
theorem dX6_valueOf_127 : decode cX6_valueOf 127 = .ok (.istore 6, 2) := by decide +kernel
theorem dX6_valueOf_129 : decode cX6_valueOf 129 = .ok (.aload_n 0, 1) := by decide +kernel
theorem dX6_valueOf_130 : decode cX6_valueOf 130 = .ok (.iload 5, 2) := by decide +kernel
theorem dX6_valueOf_132 : decode cX6_valueOf 132 = .ok (.invokevirtual 277, 3) := by decide +kernel
theorem dX6_valueOf_135 : decode cX6_valueOf 135 = .ok (.ifCond .eq 85, 3) := by decide +kernel
theorem dX6_valueOf_138 : decode cX6_valueOf 138 = .ok (.aload_n 0, 1) := by decide +kernel
theorem dX6_valueOf_139 : decode cX6_valueOf 139 = .ok (.iload 5, 2) := by decide +kernel
theorem dX6_valueOf_141 : decode cX6_valueOf 141 = .ok (.iload 6, 2) := by decide +kernel
theorem dX6_valueOf_143 : decode cX6_valueOf 143 = .ok (.aload_n 0, 1) := by decide +kernel
theorem dX6_valueOf_144 : decode cX6_valueOf 144 = .ok (.getfield 99, 3) := by decide +kernel
theorem dX6_valueOf_147 : decode cX6_valueOf 147 = .ok (.iload 6, 2) := by decide +kernel
theorem dX6_valueOf_149 : decode cX6_valueOf 149 = .ok (.iaload, 1) := by decide +kernel
theorem dX6_valueOf_150 : decode cX6_valueOf 150 = .ok (.invokevirtual 280, 3) := by decide +kernel
theorem dX6_valueOf_153 : decode cX6_valueOf 153 = .ok (.istore 7, 2) := by decide +kernel
theorem dX6_valueOf_155 : decode cX6_valueOf 155 = .ok (.aload_n 0, 1) := by decide +kernel
theorem dX6_valueOf_156 : decode cX6_valueOf 156 = .ok (.aload_n 0, 1) := by decide +kernel
theorem dX6_valueOf_157 : decode cX6_valueOf 157 = .ok (.getfield 53, 3) := by decide +kernel
theorem dX6_valueOf_160 : decode cX6_valueOf 160 = .ok (.bipush 9, 2) := by decide +kernel
theorem dX6_valueOf_162 : decode cX6_valueOf 162 = .ok (.iaload, 1) := by decide +kernel
theorem dX6_valueOf_163 : decode cX6_valueOf 163 = .ok (.aload_n 0, 1) := by decide +kernel
theorem dX6_valueOf_164 : decode cX6_valueOf 164 = .ok (.getfield 13, 3) := by decide +kernel
theorem dX6_valueOf_167 : decode cX6_valueOf 167 = .ok (.iload 6, 2) := by decide +kernel
theorem dX6_valueOf_169 : decode cX6_valueOf 169 = .ok (.iaload, 1) := by decide +kernel
theorem dX6_valueOf_170 : decode cX6_valueOf 170 = .ok (.invokevirtual 137, 3) := by decide +kernel
theorem dX6_valueOf_173 : decode cX6_valueOf 173 = .ok (.istore 8, 2) := by decide +kernel
theorem dX6_valueOf_175 : decode cX6_valueOf 175 = .ok (.iload_n 2, 1) := by decide +kernel
theorem dX6_valueOf_176 : decode cX6_valueOf 176 = .ok (.iload 7, 2) := by decide +kernel
theorem dX6_valueOf_178 : decode cX6_valueOf 178 = .ok (.aload_n 0, 1) := by decide +kernel
theorem dX6_valueOf_179 : decode cX6_valueOf 179 = .ok (.aload_n 0, 1) := by decide +kernel
theorem dX6_valueOf_180 : decode cX6_valueOf 180 = .ok (.getfield 13, 3) := by decide +kernel
theorem dX6_valueOf_183 : decode cX6_valueOf 183 = .ok (.iload_n 1, 1) := by decide +kernel
theorem dX6_valueOf_184 : decode cX6_valueOf 184 = .ok (.iaload, 1) := by decide +kernel
theorem dX6_valueOf_185 : decode cX6_valueOf 185 = .ok (.iload 8, 2) := by decide +kernel
theorem dX6_valueOf_187 : decode cX6_valueOf 187 = .ok (.iadd, 1) := by decide +kernel
theorem dX6_valueOf_188 : decode cX6_valueOf 188 = .ok (.invokevirtual 141, 3) := by decide +kernel
theorem dX6_valueOf_191 : decode cX6_valueOf 191 = .ok (.aload_n 0, 1) := by decide +kernel
theorem dX6_valueOf_192 : decode cX6_valueOf 192 = .ok (.aload_n 0, 1) := by decide +kernel
theorem dX6_valueOf_193 : decode cX6_valueOf 193 = .ok (.getfield 13, 3) := by decide +kernel
theorem dX6_valueOf_196 : decode cX6_valueOf 196 = .ok (.iload_n 1, 1) := by decide +kernel
theorem dX6_valueOf_197 : decode cX6_valueOf 197 = .ok (.iaload, 1) := by decide +kernel
theorem dX6_valueOf_198 : decode cX6_valueOf 198 = .ok (.invokevirtual 141, 3) := by decide +kernel
theorem dX6_valueOf_201 : decode cX6_valueOf 201 = .ok (.isub, 1) := by decide +kernel
theorem dX6_valueOf_202 : decode cX6_valueOf 202 = .ok (.imul, 1) := by decide +kernel
theorem dX6_valueOf_203 : decode cX6_valueOf 203 = .ok (.iadd, 1) := by decide +kernel
theorem dX6_valueOf_204 : decode cX6_valueOf 204 = .ok (.sipush 1000, 3) := by decide +kernel
theorem dX6_valueOf_207 : decode cX6_valueOf 207 = .ok (.iload 7, 2) := by decide +kernel
theorem dX6_valueOf_209 : decode cX6_valueOf 209 = .ok (.isub, 1) := by decide +kernel
theorem dX6_valueOf_210 : decode cX6_valueOf 210 = .ok (.aload_n 0, 1) := by decide +kernel
theorem dX6_valueOf_211 : decode cX6_valueOf 211 = .ok (.getfield 53, 3) := by decide +kernel
theorem dX6_valueOf_214 : decode cX6_valueOf 214 = .ok (.bipush 6, 2) := by decide +kernel
theorem dX6_valueOf_216 : decode cX6_valueOf 216 = .ok (.iaload, 1) := by decide +kernel
theorem dX6_valueOf_217 : decode cX6_valueOf 217 = .ok (.imul, 1) := by decide +kernel
theorem dX6_valueOf_218 : decode cX6_valueOf 218 = .ok (.isub, 1) := by decide +kernel
theorem dX6_valueOf_219 : decode cX6_valueOf 219 = .ok (.istore_n 2, 1) := by decide +kernel
theorem dX6_valueOf_220 : decode cX6_valueOf 220 = .ok (.aload_n 0, 1) := by decide +kernel
theorem dX6_valueOf_221 : decode cX6_valueOf 221 = .ok (.getfield 99, 3) := by decide +kernel
theorem dX6_valueOf_224 : decode cX6_valueOf 224 = .ok (.iload_n 3, 1) := by decide +kernel
theorem dX6_valueOf_225 : decode cX6_valueOf 225 = .ok (.iaload, 1) := by decide +kernel
theorem dX6_valueOf_226 : decode cX6_valueOf 226 = .ok (.iconst 3, 1) := by decide +kernel
theorem dX6_valueOf_227 : decode cX6_valueOf 227 = .ok (.if_icmp .ne 12, 3) := by decide +kernel
theorem dX6_valueOf_230 : decode cX6_valueOf 230 = .ok (.iload_n 2, 1) := by decide +kernel
theorem dX6_valueOf_231 : decode cX6_valueOf 231 = .ok (.aload_n 0, 1) := by decide +kernel
theorem dX6_valueOf_232 : decode cX6_valueOf 232 = .ok (.iload_n 1, 1) := by decide +kernel
theorem dX6_valueOf_233 : decode cX6_valueOf 233 = .ok (.iload_n 3, 1) := by decide +kernel
theorem dX6_valueOf_234 : decode cX6_valueOf 234 = .ok (.invokevirtual 283, 3) := by decide +kernel
theorem dX6_valueOf_237 : decode cX6_valueOf 237 = .ok (.isub, 1) := by decide +kernel
theorem dX6_valueOf_238 : decode cX6_valueOf 238 = .ok (.istore_n 2, 1) := by decide +kernel
theorem dX6_valueOf_239 : decode cX6_valueOf 239 = .ok (.aload_n 0, 1) := by decide +kernel
theorem dX6_valueOf_240 : decode cX6_valueOf 240 = .ok (.getfield 99, 3) := by decide +kernel
theorem dX6_valueOf_243 : decode cX6_valueOf 243 = .ok (.iload 4, 2) := by decide +kernel
theorem dX6_valueOf_245 : decode cX6_valueOf 245 = .ok (.iaload, 1) := by decide +kernel
theorem dX6_valueOf_246 : decode cX6_valueOf 246 = .ok (.iconst 2, 1) := by decide +kernel
theorem dX6_valueOf_247 : decode cX6_valueOf 247 = .ok (.if_icmp .ne 12, 3) := by decide +kernel
theorem dX6_valueOf_250 : decode cX6_valueOf 250 = .ok (.iload_n 2, 1) := by decide +kernel
theorem dX6_valueOf_251 : decode cX6_valueOf 251 = .ok (.aload_n 0, 1) := by decide +kernel
theorem dX6_valueOf_252 : decode cX6_valueOf 252 = .ok (.iload_n 1, 1) := by decide +kernel
theorem dX6_valueOf_253 : decode cX6_valueOf 253 = .ok (.iload_n 1, 1) := by decide +kernel
theorem dX6_valueOf_254 : decode cX6_valueOf 254 = .ok (.invokevirtual 283, 3) := by decide +kernel
theorem dX6_valueOf_257 : decode cX6_valueOf 257 = .ok (.isub, 1) := by decide +kernel
theorem dX6_valueOf_258 : decode cX6_valueOf 258 = .ok (.istore_n 2, 1) := by decide +kernel
theorem dX6_valueOf_259 : decode cX6_valueOf 259 = .ok (.iload_n 2, 1) := by decide +kernel
theorem dX6_valueOf_260 : decode cX6_valueOf 260 = .ok (.ireturn, 1) := by decide +kernel
theorem dX6_isRow_0 : decode cX6_isRow 0 = .ok (.iload_n 1, 1) := by decide +kernel
theorem dX6_isRow_1 : decode cX6_isRow 1 = .ok (.ifCond .lt 19, 3) := by decide +kernel
theorem dX6_isRow_4 : decode cX6_isRow 4 = .ok (.iload_n 1, 1) := by decide +kernel
theorem dX6_isRow_5 : decode cX6_isRow 5 = .ok (.iconst 1, 1) := by decide +kernel
theorem dX6_isRow_6 : decode cX6_isRow 6 = .ok (.iconst 2, 1) := by decide +kernel
theorem dX6_isRow_7 : decode cX6_isRow 7 = .ok (.aload_n 0, 1) := by decide +kernel
theorem dX6_isRow_8 : decode cX6_isRow 8 = .ok (.getfield 7, 3) := by decide +kernel
theorem dX6_isRow_11 : decode cX6_isRow 11 = .ok (.imul, 1) := by decide +kernel
theorem dX6_isRow_12 : decode cX6_isRow 12 = .ok (.ishl, 1) := by decide +kernel
theorem dX6_isRow_13 : decode cX6_isRow 13 = .ok (.if_icmp .ge 7, 3) := by decide +kernel
theorem dX6_isRow_16 : decode cX6_isRow 16 = .ok (.iconst 1, 1) := by decide +kernel
theorem dX6_isRow_17 : decode cX6_isRow 17 = .ok (.goto 4, 3) := by decide +kernel
theorem dX6_isRow_20 : decode cX6_isRow 20 = .ok (.iconst 0, 1) := by decide +kernel
theorem dX6_isRow_21 : decode cX6_isRow 21 = .ok (.ireturn, 1) := by decide +kernel
set_option maxRecDepth 20000 in
theorem ggX6_value_X6_isRow : GoodIn wsX6_value wsX6_isRow := goodIn_r _ [7, 8, 55, 56, 57, 58, 59, 60, 61, 62, 63, 64, 65, 66, 67, 68, 69, 70, 71, 72, 73, 74, 75, 76, 77, 78, 79, 80, 81, 82, 83, 84, 85, 86, 87, 88, 89, 90, 91, 92, 93, 94, 95, 96, 97, 98, 99, 100, 101, 102, 103, 104, 105, 106, 107, 108, 109] rfl (by decide +kernel)
set_option maxRecDepth 20000 in
theorem gX6_value_X6_isRow : GoodIn wsX6_value (wsV RX6 286 RX6 yX6_isRow wsX6_isRow) := goodIn_app (goodIn_of _ (by decide +kernel)) ggX6_value_X6_isRow
set_option maxRecDepth 20000 in
theorem ggX6_value_X6_isFarm : GoodIn wsX6_value wsX6_isFarm := goodIn_r _ [12, 8, 55, 56, 57, 58, 59, 60, 61, 62, 63, 64, 65, 66, 67, 68, 69, 70, 71, 72, 73, 74, 75, 76, 77, 78, 79, 80, 81, 82, 83, 84, 85, 86, 87, 88, 89, 90, 91, 92, 93, 94, 95, 96, 97, 98, 99, 100, 101, 102, 103, 104, 105, 106, 107, 108, 109] rfl (by decide +kernel)
set_option maxRecDepth 20000 in
theorem gX6_value_X6_isFarm : GoodIn wsX6_value (wsV RX6 133 RX6 yX6_isFarm wsX6_isFarm) := goodIn_app (goodIn_of _ (by decide +kernel)) ggX6_value_X6_isFarm
set_option maxRecDepth 20000 in
theorem ggX6_value_X6_takesRow : GoodIn wsX6_value wsX6_takesRow := goodIn_r _ [16, 8, 17, 55, 56, 57, 58, 59, 60, 61, 62, 63, 64, 65, 66, 67, 68, 69, 70, 71, 72, 73, 74, 75, 76, 77, 78, 79, 80, 81, 82, 83, 84, 85, 86, 87, 88, 89, 90, 91, 92, 93, 94, 95, 96, 97, 98, 99, 100, 101, 102, 103, 104, 105, 106, 107, 108, 109] rfl (by decide +kernel)
set_option maxRecDepth 20000 in
theorem gX6_value_X6_takesRow : GoodIn wsX6_value (wsV RX6 289 RX6 yX6_takesRow wsX6_takesRow) := goodIn_app (goodIn_of _ (by decide +kernel)) ggX6_value_X6_takesRow
set_option maxRecDepth 20000 in
theorem ggX6_value_X6_valueOf : GoodIn wsX6_value wsX6_valueOf := goodIn_r _ [21, 22, 23, 17, 24, 25, 26, 27, 6, 28, 8, 29, 30, 31, 32, 33, 34, 35, 36, 37, 38, 39, 40, 41, 42, 43, 44, 45, 46, 47, 48, 49, 50, 51, 52, 53, 54, 55, 56, 57, 58, 59, 60, 61, 62, 63, 64, 65, 66, 67, 68, 69, 70, 71, 72, 73, 74, 75, 76, 77, 78, 79, 80, 81, 82, 83, 84, 85, 86, 87, 88, 89, 90, 91, 92, 93, 94, 95, 96, 97, 98, 99, 100, 101, 102, 103, 104, 105, 106, 107, 108, 109] rfl (by decide +kernel)
set_option maxRecDepth 20000 in
theorem gX6_value_X6_valueOf : GoodIn wsX6_value (wsV RX6 292 RX6 yX6_valueOf wsX6_valueOf) := goodIn_app (goodIn_of _ (by decide +kernel)) ggX6_value_X6_valueOf
theorem dX6_value_0 : decode cX6_value 0 = .ok (.aload_n 0, 1) := by decide +kernel
theorem dX6_value_1 : decode cX6_value 1 = .ok (.iconst 0, 1) := by decide +kernel
theorem dX6_value_2 : decode cX6_value 2 = .ok (.putfield 121, 3) := by decide +kernel
theorem dX6_value_5 : decode cX6_value 5 = .ok (.aload_n 0, 1) := by decide +kernel
theorem dX6_value_6 : decode cX6_value 6 = .ok (.iload_n 1, 1) := by decide +kernel
theorem dX6_value_7 : decode cX6_value 7 = .ok (.invokevirtual 286, 3) := by decide +kernel
theorem dX6_value_10 : decode cX6_value 10 = .ok (.ifCond .eq 11, 3) := by decide +kernel
theorem dX6_value_13 : decode cX6_value 13 = .ok (.aload_n 0, 1) := by decide +kernel
theorem dX6_value_14 : decode cX6_value 14 = .ok (.iload_n 2, 1) := by decide +kernel
theorem dX6_value_15 : decode cX6_value 15 = .ok (.invokevirtual 133, 3) := by decide +kernel
theorem dX6_value_18 : decode cX6_value 18 = .ok (.ifCond .ne 7, 3) := by decide +kernel
theorem dX6_value_21 : decode cX6_value 21 = .ok (.ldc_w 276, 3) := by decide +kernel
theorem dX6_value_24 : decode cX6_value 24 = .ok (.ireturn, 1) := by decide +kernel
theorem dX6_value_25 : decode cX6_value 25 = .ok (.aload_n 0, 1) := by decide +kernel
theorem dX6_value_26 : decode cX6_value 26 = .ok (.iload_n 1, 1) := by decide +kernel
theorem dX6_value_27 : decode cX6_value 27 = .ok (.invokevirtual 289, 3) := by decide +kernel
theorem dX6_value_30 : decode cX6_value 30 = .ok (.aload_n 0, 1) := by decide +kernel
theorem dX6_value_31 : decode cX6_value 31 = .ok (.iload_n 2, 1) := by decide +kernel
theorem dX6_value_32 : decode cX6_value 32 = .ok (.invokevirtual 292, 3) := by decide +kernel
theorem dX6_value_35 : decode cX6_value 35 = .ok (.ireturn, 1) := by decide +kernel
set_option maxRecDepth 20000 in
theorem ggX6_replyOf_X6_valueOf : GoodIn wsX6_replyOf wsX6_valueOf := goodIn_r _ [6, 7, 8, 1, 9, 10, 11, 12, 5, 13, 14, 15, 16, 17, 18, 19, 20, 21, 22, 23, 24, 25, 26, 27, 28, 29, 30, 31, 32, 33, 34, 35, 36, 37, 38, 39, 40, 41, 42, 43, 44, 45, 46, 47, 48, 49, 50, 51, 52, 53, 54, 55, 56, 57, 58, 59, 60, 61, 62, 63, 64, 65, 66, 67, 68, 69, 70, 71, 72, 73, 74, 75, 76, 77, 78, 79, 80, 81, 82, 83, 84, 85, 86, 87, 88, 89, 90, 91, 92, 93, 94, 95] rfl (by decide +kernel)
set_option maxRecDepth 20000 in
theorem gX6_replyOf_X6_valueOf : GoodIn wsX6_replyOf (wsV RX6 292 RX6 yX6_valueOf wsX6_valueOf) := goodIn_app (goodIn_of _ (by decide +kernel)) ggX6_replyOf_X6_valueOf
theorem dX6_replyOf_0 : decode cX6_replyOf 0 = .ok (.aload_n 0, 1) := by decide +kernel
theorem dX6_replyOf_1 : decode cX6_replyOf 1 = .ok (.getfield 99, 3) := by decide +kernel
theorem dX6_replyOf_4 : decode cX6_replyOf 4 = .ok (.iload_n 1, 1) := by decide +kernel
theorem dX6_replyOf_5 : decode cX6_replyOf 5 = .ok (.iaload, 1) := by decide +kernel
theorem dX6_replyOf_6 : decode cX6_replyOf 6 = .ok (.istore_n 2, 1) := by decide +kernel
theorem dX6_replyOf_7 : decode cX6_replyOf 7 = .ok (.iconst 0, 1) := by decide +kernel
theorem dX6_replyOf_8 : decode cX6_replyOf 8 = .ok (.istore_n 3, 1) := by decide +kernel
theorem dX6_replyOf_9 : decode cX6_replyOf 9 = .ok (.iconst 0, 1) := by decide +kernel
theorem dX6_replyOf_10 : decode cX6_replyOf 10 = .ok (.istore 4, 2) := by decide +kernel
theorem dX6_replyOf_12 : decode cX6_replyOf 12 = .ok (.iconst 0, 1) := by decide +kernel
theorem dX6_replyOf_13 : decode cX6_replyOf 13 = .ok (.istore 5, 2) := by decide +kernel
theorem dX6_replyOf_15 : decode cX6_replyOf 15 = .ok (.iload 5, 2) := by decide +kernel
theorem dX6_replyOf_17 : decode cX6_replyOf 17 = .ok (.iconst 4, 1) := by decide +kernel
theorem dX6_replyOf_18 : decode cX6_replyOf 18 = .ok (.if_icmp .ge 46, 3) := by decide +kernel
theorem dX6_replyOf_21 : decode cX6_replyOf 21 = .ok (.aload_n 0, 1) := by decide +kernel
theorem dX6_replyOf_22 : decode cX6_replyOf 22 = .ok (.getfield 99, 3) := by decide +kernel
theorem dX6_replyOf_25 : decode cX6_replyOf 25 = .ok (.iload_n 1, 1) := by decide +kernel
theorem dX6_replyOf_26 : decode cX6_replyOf 26 = .ok (.iload 5, 2) := by decide +kernel
theorem dX6_replyOf_28 : decode cX6_replyOf 28 = .ok (.iastore, 1) := by decide +kernel
theorem dX6_replyOf_29 : decode cX6_replyOf 29 = .ok (.aload_n 0, 1) := by decide +kernel
theorem dX6_replyOf_30 : decode cX6_replyOf 30 = .ok (.iload_n 1, 1) := by decide +kernel
theorem dX6_replyOf_31 : decode cX6_replyOf 31 = .ok (.invokevirtual 292, 3) := by decide +kernel
theorem dX6_replyOf_34 : decode cX6_replyOf 34 = .ok (.istore 6, 2) := by decide +kernel
theorem dX6_replyOf_36 : decode cX6_replyOf 36 = .ok (.iload 5, 2) := by decide +kernel
theorem dX6_replyOf_38 : decode cX6_replyOf 38 = .ok (.ifCond .le 13, 3) := by decide +kernel
theorem dX6_replyOf_41 : decode cX6_replyOf 41 = .ok (.iload 6, 2) := by decide +kernel
theorem dX6_replyOf_43 : decode cX6_replyOf 43 = .ok (.iload 4, 2) := by decide +kernel
theorem dX6_replyOf_45 : decode cX6_replyOf 45 = .ok (.if_icmp .gt 6, 3) := by decide +kernel
theorem dX6_replyOf_48 : decode cX6_replyOf 48 = .ok (.goto 10, 3) := by decide +kernel
theorem dX6_replyOf_51 : decode cX6_replyOf 51 = .ok (.iload 5, 2) := by decide +kernel
theorem dX6_replyOf_53 : decode cX6_replyOf 53 = .ok (.istore_n 3, 1) := by decide +kernel
theorem dX6_replyOf_54 : decode cX6_replyOf 54 = .ok (.iload 6, 2) := by decide +kernel
theorem dX6_replyOf_56 : decode cX6_replyOf 56 = .ok (.istore 4, 2) := by decide +kernel
theorem dX6_replyOf_58 : decode cX6_replyOf 58 = .ok (.iinc 5 1, 3) := by decide +kernel
theorem dX6_replyOf_61 : decode cX6_replyOf 61 = .ok (.goto (-46), 3) := by decide +kernel
theorem dX6_replyOf_64 : decode cX6_replyOf 64 = .ok (.aload_n 0, 1) := by decide +kernel
theorem dX6_replyOf_65 : decode cX6_replyOf 65 = .ok (.getfield 99, 3) := by decide +kernel
theorem dX6_replyOf_68 : decode cX6_replyOf 68 = .ok (.iload_n 1, 1) := by decide +kernel
theorem dX6_replyOf_69 : decode cX6_replyOf 69 = .ok (.iload_n 2, 1) := by decide +kernel
theorem dX6_replyOf_70 : decode cX6_replyOf 70 = .ok (.iastore, 1) := by decide +kernel
theorem dX6_replyOf_71 : decode cX6_replyOf 71 = .ok (.iload_n 3, 1) := by decide +kernel
theorem dX6_replyOf_72 : decode cX6_replyOf 72 = .ok (.ireturn, 1) := by decide +kernel
set_option maxRecDepth 20000 in
theorem ggX6_reply_X6_isRow : GoodIn wsX6_reply wsX6_isRow := goodIn_r _ [6, 7, 58, 59, 60, 61, 62, 63, 64, 65, 66, 67, 68, 69, 70, 71, 72, 73, 74, 75, 76, 77, 78, 79, 80, 81, 82, 83, 84, 85, 86, 87, 88, 89, 90, 91, 92, 93, 94, 95, 96, 97, 98, 99, 100, 101, 102, 103, 104, 105, 106, 107, 108, 109, 110, 111, 112] rfl (by decide +kernel)
set_option maxRecDepth 20000 in
theorem gX6_reply_X6_isRow : GoodIn wsX6_reply (wsV RX6 286 RX6 yX6_isRow wsX6_isRow) := goodIn_app (goodIn_of _ (by decide +kernel)) ggX6_reply_X6_isRow
set_option maxRecDepth 20000 in
theorem ggX6_reply_X6_isFarm : GoodIn wsX6_reply wsX6_isFarm := goodIn_r _ [11, 7, 58, 59, 60, 61, 62, 63, 64, 65, 66, 67, 68, 69, 70, 71, 72, 73, 74, 75, 76, 77, 78, 79, 80, 81, 82, 83, 84, 85, 86, 87, 88, 89, 90, 91, 92, 93, 94, 95, 96, 97, 98, 99, 100, 101, 102, 103, 104, 105, 106, 107, 108, 109, 110, 111, 112] rfl (by decide +kernel)
set_option maxRecDepth 20000 in
theorem gX6_reply_X6_isFarm : GoodIn wsX6_reply (wsV RX6 133 RX6 yX6_isFarm wsX6_isFarm) := goodIn_app (goodIn_of _ (by decide +kernel)) ggX6_reply_X6_isFarm
set_option maxRecDepth 20000 in
theorem ggX6_reply_X6_takesRow : GoodIn wsX6_reply wsX6_takesRow := goodIn_r _ [15, 7, 16, 58, 59, 60, 61, 62, 63, 64, 65, 66, 67, 68, 69, 70, 71, 72, 73, 74, 75, 76, 77, 78, 79, 80, 81, 82, 83, 84, 85, 86, 87, 88, 89, 90, 91, 92, 93, 94, 95, 96, 97, 98, 99, 100, 101, 102, 103, 104, 105, 106, 107, 108, 109, 110, 111, 112] rfl (by decide +kernel)
set_option maxRecDepth 20000 in
theorem gX6_reply_X6_takesRow : GoodIn wsX6_reply (wsV RX6 289 RX6 yX6_takesRow wsX6_takesRow) := goodIn_app (goodIn_of _ (by decide +kernel)) ggX6_reply_X6_takesRow
set_option maxRecDepth 20000 in
theorem ggX6_reply_X6_replyOf : GoodIn wsX6_reply wsX6_replyOf := goodIn_r _ [20, 16, 21, 22, 23, 5, 24, 25, 26, 27, 28, 29, 30, 31, 7, 32, 33, 34, 35, 36, 37, 38, 39, 40, 41, 42, 43, 44, 45, 46, 47, 48, 49, 50, 51, 52, 53, 54, 55, 56, 57, 58, 59, 60, 61, 62, 63, 64, 65, 66, 67, 68, 69, 70, 71, 72, 73, 74, 75, 76, 77, 78, 79, 80, 81, 82, 83, 84, 85, 86, 87, 88, 89, 90, 91, 92, 93, 94, 95, 96, 97, 98, 99, 100, 101, 102, 103, 104, 105, 106, 107, 108, 109, 110, 111, 112] rfl (by decide +kernel)
set_option maxRecDepth 20000 in
theorem gX6_reply_X6_replyOf : GoodIn wsX6_reply (wsV RX6 295 RX6 yX6_replyOf wsX6_replyOf) := goodIn_app (goodIn_of _ (by decide +kernel)) ggX6_reply_X6_replyOf
theorem dX6_reply_0 : decode cX6_reply 0 = .ok (.aload_n 0, 1) := by decide +kernel
theorem dX6_reply_1 : decode cX6_reply 1 = .ok (.iconst 0, 1) := by decide +kernel
theorem dX6_reply_2 : decode cX6_reply 2 = .ok (.putfield 121, 3) := by decide +kernel
theorem dX6_reply_5 : decode cX6_reply 5 = .ok (.aload_n 0, 1) := by decide +kernel
theorem dX6_reply_6 : decode cX6_reply 6 = .ok (.iload_n 1, 1) := by decide +kernel
theorem dX6_reply_7 : decode cX6_reply 7 = .ok (.invokevirtual 286, 3) := by decide +kernel
theorem dX6_reply_10 : decode cX6_reply 10 = .ok (.ifCond .eq 11, 3) := by decide +kernel
theorem dX6_reply_13 : decode cX6_reply 13 = .ok (.aload_n 0, 1) := by decide +kernel
theorem dX6_reply_14 : decode cX6_reply 14 = .ok (.iload_n 2, 1) := by decide +kernel
theorem dX6_reply_15 : decode cX6_reply 15 = .ok (.invokevirtual 133, 3) := by decide +kernel
theorem dX6_reply_18 : decode cX6_reply 18 = .ok (.ifCond .ne 5, 3) := by decide +kernel
theorem dX6_reply_21 : decode cX6_reply 21 = .ok (.iconst (-1), 1) := by decide +kernel
theorem dX6_reply_22 : decode cX6_reply 22 = .ok (.ireturn, 1) := by decide +kernel
theorem dX6_reply_23 : decode cX6_reply 23 = .ok (.aload_n 0, 1) := by decide +kernel
theorem dX6_reply_24 : decode cX6_reply 24 = .ok (.iload_n 1, 1) := by decide +kernel
theorem dX6_reply_25 : decode cX6_reply 25 = .ok (.invokevirtual 289, 3) := by decide +kernel
theorem dX6_reply_28 : decode cX6_reply 28 = .ok (.aload_n 0, 1) := by decide +kernel
theorem dX6_reply_29 : decode cX6_reply 29 = .ok (.iload_n 2, 1) := by decide +kernel
theorem dX6_reply_30 : decode cX6_reply 30 = .ok (.invokevirtual 295, 3) := by decide +kernel
theorem dX6_reply_33 : decode cX6_reply 33 = .ok (.ireturn, 1) := by decide +kernel
set_option maxRecDepth 20000 in
theorem ggX6_isRest_X6_valueOf : GoodIn wsX6_isRest wsX6_valueOf := goodIn_r _ [7, 8, 9, 2, 10, 11, 12, 13, 6, 14, 1, 15, 16, 17, 18, 19, 20, 21, 22, 23, 24, 25, 26, 27, 28, 29, 30, 31, 32, 33, 34, 35, 36, 37, 38, 39, 40, 45, 46, 47, 48, 49, 50, 51, 52, 53, 54, 55, 56, 57, 58, 59, 60, 61, 62, 63, 64, 65, 66, 67, 68, 69, 70, 71, 72, 73, 74, 75, 76, 77, 78, 79, 80, 81, 82, 83, 84, 85, 86, 87, 88, 89, 90, 91, 92, 93, 94, 95, 96, 97, 98, 99] rfl (by decide +kernel)
set_option maxRecDepth 20000 in
theorem gX6_isRest_X6_valueOf : GoodIn wsX6_isRest (wsV RX6 292 RX6 yX6_valueOf wsX6_valueOf) := goodIn_app (goodIn_of _ (by decide +kernel)) ggX6_isRest_X6_valueOf
set_option maxRecDepth 20000 in
theorem ggX6_isRest_X6_replyOf : GoodIn wsX6_isRest wsX6_replyOf := goodIn_r _ [44, 2, 3, 4, 5, 6, 7, 8, 9, 10, 11, 12, 13, 14, 1, 15, 16, 17, 18, 19, 20, 21, 22, 23, 24, 25, 26, 27, 28, 29, 30, 31, 32, 33, 34, 35, 36, 37, 38, 39, 40, 45, 46, 47, 48, 49, 50, 51, 52, 53, 54, 55, 56, 57, 58, 59, 60, 61, 62, 63, 64, 65, 66, 67, 68, 69, 70, 71, 72, 73, 74, 75, 76, 77, 78, 79, 80, 81, 82, 83, 84, 85, 86, 87, 88, 89, 90, 91, 92, 93, 94, 95, 96, 97, 98, 99] rfl (by decide +kernel)
set_option maxRecDepth 20000 in
theorem gX6_isRest_X6_replyOf : GoodIn wsX6_isRest (wsV RX6 295 RX6 yX6_replyOf wsX6_replyOf) := goodIn_app (goodIn_of _ (by decide +kernel)) ggX6_isRest_X6_replyOf
theorem dX6_isRest_0 : decode cX6_isRest 0 = .ok (.iconst 0, 1) := by decide +kernel
theorem dX6_isRest_1 : decode cX6_isRest 1 = .ok (.istore_n 1, 1) := by decide +kernel
theorem dX6_isRest_2 : decode cX6_isRest 2 = .ok (.iload_n 1, 1) := by decide +kernel
theorem dX6_isRest_3 : decode cX6_isRest 3 = .ok (.aload_n 0, 1) := by decide +kernel
theorem dX6_isRest_4 : decode cX6_isRest 4 = .ok (.getfield 7, 3) := by decide +kernel
theorem dX6_isRest_7 : decode cX6_isRest 7 = .ok (.if_icmp .ge 55, 3) := by decide +kernel
theorem dX6_isRest_10 : decode cX6_isRest 10 = .ok (.aload_n 0, 1) := by decide +kernel
theorem dX6_isRest_11 : decode cX6_isRest 11 = .ok (.iload_n 1, 1) := by decide +kernel
theorem dX6_isRest_12 : decode cX6_isRest 12 = .ok (.invokevirtual 292, 3) := by decide +kernel
theorem dX6_isRest_15 : decode cX6_isRest 15 = .ok (.istore_n 2, 1) := by decide +kernel
theorem dX6_isRest_16 : decode cX6_isRest 16 = .ok (.aload_n 0, 1) := by decide +kernel
theorem dX6_isRest_17 : decode cX6_isRest 17 = .ok (.getfield 99, 3) := by decide +kernel
theorem dX6_isRest_20 : decode cX6_isRest 20 = .ok (.iload_n 1, 1) := by decide +kernel
theorem dX6_isRest_21 : decode cX6_isRest 21 = .ok (.iaload, 1) := by decide +kernel
theorem dX6_isRest_22 : decode cX6_isRest 22 = .ok (.istore_n 3, 1) := by decide +kernel
theorem dX6_isRest_23 : decode cX6_isRest 23 = .ok (.aload_n 0, 1) := by decide +kernel
theorem dX6_isRest_24 : decode cX6_isRest 24 = .ok (.getfield 99, 3) := by decide +kernel
theorem dX6_isRest_27 : decode cX6_isRest 27 = .ok (.iload_n 1, 1) := by decide +kernel
theorem dX6_isRest_28 : decode cX6_isRest 28 = .ok (.aload_n 0, 1) := by decide +kernel
theorem dX6_isRest_29 : decode cX6_isRest 29 = .ok (.iload_n 1, 1) := by decide +kernel
theorem dX6_isRest_30 : decode cX6_isRest 30 = .ok (.invokevirtual 295, 3) := by decide +kernel
theorem dX6_isRest_33 : decode cX6_isRest 33 = .ok (.iastore, 1) := by decide +kernel
theorem dX6_isRest_34 : decode cX6_isRest 34 = .ok (.aload_n 0, 1) := by decide +kernel
theorem dX6_isRest_35 : decode cX6_isRest 35 = .ok (.iload_n 1, 1) := by decide +kernel
theorem dX6_isRest_36 : decode cX6_isRest 36 = .ok (.invokevirtual 292, 3) := by decide +kernel
theorem dX6_isRest_39 : decode cX6_isRest 39 = .ok (.istore 4, 2) := by decide +kernel
theorem dX6_isRest_41 : decode cX6_isRest 41 = .ok (.aload_n 0, 1) := by decide +kernel
theorem dX6_isRest_42 : decode cX6_isRest 42 = .ok (.getfield 99, 3) := by decide +kernel
theorem dX6_isRest_45 : decode cX6_isRest 45 = .ok (.iload_n 1, 1) := by decide +kernel
theorem dX6_isRest_46 : decode cX6_isRest 46 = .ok (.iload_n 3, 1) := by decide +kernel
theorem dX6_isRest_47 : decode cX6_isRest 47 = .ok (.iastore, 1) := by decide +kernel
theorem dX6_isRest_48 : decode cX6_isRest 48 = .ok (.iload 4, 2) := by decide +kernel
theorem dX6_isRest_50 : decode cX6_isRest 50 = .ok (.iload_n 2, 1) := by decide +kernel
theorem dX6_isRest_51 : decode cX6_isRest 51 = .ok (.if_icmp .le 5, 3) := by decide +kernel
theorem dX6_isRest_54 : decode cX6_isRest 54 = .ok (.iconst 0, 1) := by decide +kernel
theorem dX6_isRest_55 : decode cX6_isRest 55 = .ok (.ireturn, 1) := by decide +kernel
theorem dX6_isRest_56 : decode cX6_isRest 56 = .ok (.iinc 1 1, 3) := by decide +kernel
theorem dX6_isRest_59 : decode cX6_isRest 59 = .ok (.goto (-57), 3) := by decide +kernel
theorem dX6_isRest_62 : decode cX6_isRest 62 = .ok (.iconst 1, 1) := by decide +kernel
theorem dX6_isRest_63 : decode cX6_isRest 63 = .ok (.ireturn, 1) := by decide +kernel
set_option maxRecDepth 20000 in
theorem ggX6_sumOf_X6_valueOf : GoodIn wsX6_sumOf wsX6_valueOf := goodIn_r _ [6, 7, 8, 9, 10, 11, 12, 13, 5, 14, 1, 15, 16, 17, 18, 19, 20, 21, 22, 23, 24, 25, 26, 27, 28, 29, 30, 31, 32, 33, 34, 35, 36, 37, 38, 39, 40, 41, 42, 43, 44, 45, 46, 47, 48, 49, 50, 51, 52, 53, 54, 55, 56, 57, 58, 59, 60, 61, 62, 63, 64, 65, 66, 67, 68, 69, 70, 71, 72, 73, 74, 75, 76, 77, 78, 79, 80, 81, 82, 83, 84, 85, 86, 87, 88, 89, 90, 91, 92, 93, 94, 95] rfl (by decide +kernel)
set_option maxRecDepth 20000 in
theorem gX6_sumOf_X6_valueOf : GoodIn wsX6_sumOf (wsV RX6 292 RX6 yX6_valueOf wsX6_valueOf) := goodIn_app (goodIn_of _ (by decide +kernel)) ggX6_sumOf_X6_valueOf
theorem dX6_sumOf_0 : decode cX6_sumOf 0 = .ok (.iconst 0, 1) := by decide +kernel
theorem dX6_sumOf_1 : decode cX6_sumOf 1 = .ok (.istore_n 1, 1) := by decide +kernel
theorem dX6_sumOf_2 : decode cX6_sumOf 2 = .ok (.iconst 0, 1) := by decide +kernel
theorem dX6_sumOf_3 : decode cX6_sumOf 3 = .ok (.istore_n 2, 1) := by decide +kernel
theorem dX6_sumOf_4 : decode cX6_sumOf 4 = .ok (.iload_n 2, 1) := by decide +kernel
theorem dX6_sumOf_5 : decode cX6_sumOf 5 = .ok (.aload_n 0, 1) := by decide +kernel
theorem dX6_sumOf_6 : decode cX6_sumOf 6 = .ok (.getfield 7, 3) := by decide +kernel
theorem dX6_sumOf_9 : decode cX6_sumOf 9 = .ok (.if_icmp .ge 17, 3) := by decide +kernel
theorem dX6_sumOf_12 : decode cX6_sumOf 12 = .ok (.iload_n 1, 1) := by decide +kernel
theorem dX6_sumOf_13 : decode cX6_sumOf 13 = .ok (.aload_n 0, 1) := by decide +kernel
theorem dX6_sumOf_14 : decode cX6_sumOf 14 = .ok (.iload_n 2, 1) := by decide +kernel
theorem dX6_sumOf_15 : decode cX6_sumOf 15 = .ok (.invokevirtual 292, 3) := by decide +kernel
theorem dX6_sumOf_18 : decode cX6_sumOf 18 = .ok (.iadd, 1) := by decide +kernel
theorem dX6_sumOf_19 : decode cX6_sumOf 19 = .ok (.istore_n 1, 1) := by decide +kernel
theorem dX6_sumOf_20 : decode cX6_sumOf 20 = .ok (.iinc 2 1, 3) := by decide +kernel
theorem dX6_sumOf_23 : decode cX6_sumOf 23 = .ok (.goto (-19), 3) := by decide +kernel
theorem dX6_sumOf_26 : decode cX6_sumOf 26 = .ok (.iload_n 1, 1) := by decide +kernel
theorem dX6_sumOf_27 : decode cX6_sumOf 27 = .ok (.ireturn, 1) := by decide +kernel
set_option maxRecDepth 20000 in
theorem ggX6_rests_X6_isIn : GoodIn wsX6_rests wsX6_isIn := goodIn_r _ [7] rfl (by decide +kernel)
set_option maxRecDepth 20000 in
theorem gX6_rests_X6_isIn : GoodIn wsX6_rests (wsV RX6 129 RX6 yX6_isIn wsX6_isIn) := goodIn_app (goodIn_of _ (by decide +kernel)) ggX6_rests_X6_isIn
set_option maxRecDepth 20000 in
theorem ggX6_rests_X6_takesRow : GoodIn wsX6_rests wsX6_takesRow := goodIn_r _ [11, 2, 12, 62, 63, 64, 65, 66, 67, 68, 69, 70, 71, 72, 73, 74, 75, 76, 77, 78, 79, 80, 81, 82, 83, 84, 85, 86, 87, 88, 89, 90, 91, 92, 93, 94, 95, 96, 97, 98, 99, 100, 101, 102, 103, 104, 105, 106, 107, 108, 109, 110, 111, 112, 113, 114, 115, 116] rfl (by decide +kernel)
set_option maxRecDepth 20000 in
theorem gX6_rests_X6_takesRow : GoodIn wsX6_rests (wsV RX6 289 RX6 yX6_takesRow wsX6_takesRow) := goodIn_app (goodIn_of _ (by decide +kernel)) ggX6_rests_X6_takesRow
set_option maxRecDepth 20000 in
theorem ggX6_rests_X6_isRest : GoodIn wsX6_rests wsX6_isRest := goodIn_r _ [16, 2, 12, 17, 18, 19, 6, 20, 21, 22, 23, 24, 25, 26, 27, 28, 29, 30, 31, 32, 33, 34, 35, 36, 37, 38, 39, 40, 41, 42, 43, 44, 45, 46, 47, 48, 49, 50, 51, 52, 53, 54, 55, 56, 57, 62, 63, 64, 65, 66, 67, 68, 69, 70, 71, 72, 73, 74, 75, 76, 77, 78, 79, 80, 81, 82, 83, 84, 85, 86, 87, 88, 89, 90, 91, 92, 93, 94, 95, 96, 97, 98, 99, 100, 101, 102, 103, 104, 105, 106, 107, 108, 109, 110, 111, 112, 113, 114, 115, 116] rfl (by decide +kernel)
set_option maxRecDepth 20000 in
theorem gX6_rests_X6_isRest : GoodIn wsX6_rests (wsV RX6 298 RX6 yX6_isRest wsX6_isRest) := goodIn_app (goodIn_of _ (by decide +kernel)) ggX6_rests_X6_isRest
set_option maxRecDepth 20000 in
theorem ggX6_rests_X6_sumOf : GoodIn wsX6_rests wsX6_sumOf := goodIn_r _ [61, 2, 17, 18, 19, 6, 20, 21, 22, 12, 23, 24, 25, 26, 27, 28, 29, 30, 31, 32, 33, 34, 35, 36, 37, 38, 39, 40, 41, 42, 43, 44, 45, 46, 47, 48, 49, 50, 51, 52, 53, 62, 63, 64, 65, 66, 67, 68, 69, 70, 71, 72, 73, 74, 75, 76, 77, 78, 79, 80, 81, 82, 83, 84, 85, 86, 87, 88, 89, 90, 91, 92, 93, 94, 95, 96, 97, 98, 99, 100, 101, 102, 103, 104, 105, 106, 107, 108, 109, 110, 111, 112, 113, 114, 115, 116] rfl (by decide +kernel)
set_option maxRecDepth 20000 in
theorem gX6_rests_X6_sumOf : GoodIn wsX6_rests (wsV RX6 302 RX6 yX6_sumOf wsX6_sumOf) := goodIn_app (goodIn_of _ (by decide +kernel)) ggX6_rests_X6_sumOf
theorem dX6_rests_0 : decode cX6_rests 0 = .ok (.aload_n 0, 1) := by decide +kernel
theorem dX6_rests_1 : decode cX6_rests 1 = .ok (.iconst 0, 1) := by decide +kernel
theorem dX6_rests_2 : decode cX6_rests 2 = .ok (.putfield 121, 3) := by decide +kernel
theorem dX6_rests_5 : decode cX6_rests 5 = .ok (.aload_n 0, 1) := by decide +kernel
theorem dX6_rests_6 : decode cX6_rests 6 = .ok (.getfield 7, 3) := by decide +kernel
theorem dX6_rests_9 : decode cX6_rests 9 = .ok (.bipush 6, 2) := by decide +kernel
theorem dX6_rests_11 : decode cX6_rests 11 = .ok (.if_icmp .gt 13, 3) := by decide +kernel
theorem dX6_rests_14 : decode cX6_rests 14 = .ok (.aload_n 0, 1) := by decide +kernel
theorem dX6_rests_15 : decode cX6_rests 15 = .ok (.iload_n 1, 1) := by decide +kernel
theorem dX6_rests_16 : decode cX6_rests 16 = .ok (.iconst 0, 1) := by decide +kernel
theorem dX6_rests_17 : decode cX6_rests 17 = .ok (.iconst 3, 1) := by decide +kernel
theorem dX6_rests_18 : decode cX6_rests 18 = .ok (.invokevirtual 129, 3) := by decide +kernel
theorem dX6_rests_21 : decode cX6_rests 21 = .ok (.ifCond .ne 5, 3) := by decide +kernel
theorem dX6_rests_24 : decode cX6_rests 24 = .ok (.iconst (-1), 1) := by decide +kernel
theorem dX6_rests_25 : decode cX6_rests 25 = .ok (.ireturn, 1) := by decide +kernel
theorem dX6_rests_26 : decode cX6_rests 26 = .ok (.iconst 0, 1) := by decide +kernel
theorem dX6_rests_27 : decode cX6_rests 27 = .ok (.istore_n 2, 1) := by decide +kernel
theorem dX6_rests_28 : decode cX6_rests 28 = .ok (.iconst (-1), 1) := by decide +kernel
theorem dX6_rests_29 : decode cX6_rests 29 = .ok (.istore_n 3, 1) := by decide +kernel
theorem dX6_rests_30 : decode cX6_rests 30 = .ok (.iconst (-1), 1) := by decide +kernel
theorem dX6_rests_31 : decode cX6_rests 31 = .ok (.istore 4, 2) := by decide +kernel
theorem dX6_rests_33 : decode cX6_rests 33 = .ok (.iconst 0, 1) := by decide +kernel
theorem dX6_rests_34 : decode cX6_rests 34 = .ok (.istore 5, 2) := by decide +kernel
theorem dX6_rests_36 : decode cX6_rests 36 = .ok (.iconst 0, 1) := by decide +kernel
theorem dX6_rests_37 : decode cX6_rests 37 = .ok (.istore 6, 2) := by decide +kernel
theorem dX6_rests_39 : decode cX6_rests 39 = .ok (.iconst 1, 1) := by decide +kernel
theorem dX6_rests_40 : decode cX6_rests 40 = .ok (.iconst 2, 1) := by decide +kernel
theorem dX6_rests_41 : decode cX6_rests 41 = .ok (.aload_n 0, 1) := by decide +kernel
theorem dX6_rests_42 : decode cX6_rests 42 = .ok (.getfield 7, 3) := by decide +kernel
theorem dX6_rests_45 : decode cX6_rests 45 = .ok (.imul, 1) := by decide +kernel
theorem dX6_rests_46 : decode cX6_rests 46 = .ok (.ishl, 1) := by decide +kernel
theorem dX6_rests_47 : decode cX6_rests 47 = .ok (.iconst 1, 1) := by decide +kernel
theorem dX6_rests_48 : decode cX6_rests 48 = .ok (.isub, 1) := by decide +kernel
theorem dX6_rests_49 : decode cX6_rests 49 = .ok (.iconst 3, 1) := by decide +kernel
theorem dX6_rests_50 : decode cX6_rests 50 = .ok (.idiv, 1) := by decide +kernel
theorem dX6_rests_51 : decode cX6_rests 51 = .ok (.istore 7, 2) := by decide +kernel
theorem dX6_rests_53 : decode cX6_rests 53 = .ok (.iconst 0, 1) := by decide +kernel
theorem dX6_rests_54 : decode cX6_rests 54 = .ok (.istore 8, 2) := by decide +kernel
theorem dX6_rests_56 : decode cX6_rests 56 = .ok (.iload 8, 2) := by decide +kernel
theorem dX6_rests_58 : decode cX6_rests 58 = .ok (.iconst 1, 1) := by decide +kernel
theorem dX6_rests_59 : decode cX6_rests 59 = .ok (.iconst 2, 1) := by decide +kernel
theorem dX6_rests_60 : decode cX6_rests 60 = .ok (.aload_n 0, 1) := by decide +kernel
theorem dX6_rests_61 : decode cX6_rests 61 = .ok (.getfield 7, 3) := by decide +kernel
theorem dX6_rests_64 : decode cX6_rests 64 = .ok (.imul, 1) := by decide +kernel
theorem dX6_rests_65 : decode cX6_rests 65 = .ok (.ishl, 1) := by decide +kernel
theorem dX6_rests_66 : decode cX6_rests 66 = .ok (.if_icmp .ge 89, 3) := by decide +kernel
theorem dX6_rests_69 : decode cX6_rests 69 = .ok (.aload_n 0, 1) := by decide +kernel
theorem dX6_rests_70 : decode cX6_rests 70 = .ok (.iload 8, 2) := by decide +kernel
theorem dX6_rests_72 : decode cX6_rests 72 = .ok (.invokevirtual 289, 3) := by decide +kernel
theorem dX6_rests_75 : decode cX6_rests 75 = .ok (.aload_n 0, 1) := by decide +kernel
theorem dX6_rests_76 : decode cX6_rests 76 = .ok (.invokevirtual 298, 3) := by decide +kernel
theorem dX6_rests_79 : decode cX6_rests 79 = .ok (.ifCond .ne 6, 3) := by decide +kernel
theorem dX6_rests_82 : decode cX6_rests 82 = .ok (.goto 67, 3) := by decide +kernel
theorem dX6_rests_85 : decode cX6_rests 85 = .ok (.iload_n 2, 1) := by decide +kernel
theorem dX6_rests_86 : decode cX6_rests 86 = .ok (.iconst 1, 1) := by decide +kernel
theorem dX6_rests_87 : decode cX6_rests 87 = .ok (.iadd, 1) := by decide +kernel
theorem dX6_rests_88 : decode cX6_rests 88 = .ok (.istore_n 2, 1) := by decide +kernel
theorem dX6_rests_89 : decode cX6_rests 89 = .ok (.iload_n 3, 1) := by decide +kernel
theorem dX6_rests_90 : decode cX6_rests 90 = .ok (.iconst (-1), 1) := by decide +kernel
theorem dX6_rests_91 : decode cX6_rests 91 = .ok (.if_icmp .ne 8, 3) := by decide +kernel
theorem dX6_rests_94 : decode cX6_rests 94 = .ok (.iload 8, 2) := by decide +kernel
theorem dX6_rests_96 : decode cX6_rests 96 = .ok (.goto 4, 3) := by decide +kernel
theorem dX6_rests_99 : decode cX6_rests 99 = .ok (.iload_n 3, 1) := by decide +kernel
theorem dX6_rests_100 : decode cX6_rests 100 = .ok (.istore_n 3, 1) := by decide +kernel
theorem dX6_rests_101 : decode cX6_rests 101 = .ok (.iload 8, 2) := by decide +kernel
theorem dX6_rests_103 : decode cX6_rests 103 = .ok (.iload 7, 2) := by decide +kernel
theorem dX6_rests_105 : decode cX6_rests 105 = .ok (.irem, 1) := by decide +kernel
theorem dX6_rests_106 : decode cX6_rests 106 = .ok (.ifCond .ne 15, 3) := by decide +kernel
theorem dX6_rests_109 : decode cX6_rests 109 = .ok (.iload 6, 2) := by decide +kernel
theorem dX6_rests_111 : decode cX6_rests 111 = .ok (.iconst 1, 1) := by decide +kernel
theorem dX6_rests_112 : decode cX6_rests 112 = .ok (.iload 8, 2) := by decide +kernel
theorem dX6_rests_114 : decode cX6_rests 114 = .ok (.iload 7, 2) := by decide +kernel
theorem dX6_rests_116 : decode cX6_rests 116 = .ok (.idiv, 1) := by decide +kernel
theorem dX6_rests_117 : decode cX6_rests 117 = .ok (.ishl, 1) := by decide +kernel
theorem dX6_rests_118 : decode cX6_rests 118 = .ok (.ior, 1) := by decide +kernel
theorem dX6_rests_119 : decode cX6_rests 119 = .ok (.istore 6, 2) := by decide +kernel
theorem dX6_rests_121 : decode cX6_rests 121 = .ok (.iload 4, 2) := by decide +kernel
theorem dX6_rests_123 : decode cX6_rests 123 = .ok (.iconst (-1), 1) := by decide +kernel
theorem dX6_rests_124 : decode cX6_rests 124 = .ok (.if_icmp .eq 15, 3) := by decide +kernel
theorem dX6_rests_127 : decode cX6_rests 127 = .ok (.aload_n 0, 1) := by decide +kernel
theorem dX6_rests_128 : decode cX6_rests 128 = .ok (.invokevirtual 302, 3) := by decide +kernel
theorem dX6_rests_131 : decode cX6_rests 131 = .ok (.iload 5, 2) := by decide +kernel
theorem dX6_rests_133 : decode cX6_rests 133 = .ok (.if_icmp .gt 6, 3) := by decide +kernel
theorem dX6_rests_136 : decode cX6_rests 136 = .ok (.goto 13, 3) := by decide +kernel
theorem dX6_rests_139 : decode cX6_rests 139 = .ok (.iload 8, 2) := by decide +kernel
theorem dX6_rests_141 : decode cX6_rests 141 = .ok (.istore 4, 2) := by decide +kernel
theorem dX6_rests_143 : decode cX6_rests 143 = .ok (.aload_n 0, 1) := by decide +kernel
theorem dX6_rests_144 : decode cX6_rests 144 = .ok (.invokevirtual 302, 3) := by decide +kernel
theorem dX6_rests_147 : decode cX6_rests 147 = .ok (.istore 5, 2) := by decide +kernel
theorem dX6_rests_149 : decode cX6_rests 149 = .ok (.iinc 8 1, 3) := by decide +kernel
theorem dX6_rests_152 : decode cX6_rests 152 = .ok (.goto (-96), 3) := by decide +kernel
theorem dX6_rests_155 : decode cX6_rests 155 = .ok (.iload_n 1, 1) := by decide +kernel
theorem dX6_rests_156 : decode cX6_rests 156 = .ok (.ifCond .ne 7, 3) := by decide +kernel
theorem dX6_rests_159 : decode cX6_rests 159 = .ok (.iload_n 2, 1) := by decide +kernel
theorem dX6_rests_160 : decode cX6_rests 160 = .ok (.goto 24, 3) := by decide +kernel
theorem dX6_rests_163 : decode cX6_rests 163 = .ok (.iload_n 1, 1) := by decide +kernel
theorem dX6_rests_164 : decode cX6_rests 164 = .ok (.iconst 1, 1) := by decide +kernel
theorem dX6_rests_165 : decode cX6_rests 165 = .ok (.if_icmp .ne 7, 3) := by decide +kernel
theorem dX6_rests_168 : decode cX6_rests 168 = .ok (.iload_n 3, 1) := by decide +kernel
theorem dX6_rests_169 : decode cX6_rests 169 = .ok (.goto 15, 3) := by decide +kernel
theorem dX6_rests_172 : decode cX6_rests 172 = .ok (.iload_n 1, 1) := by decide +kernel
theorem dX6_rests_173 : decode cX6_rests 173 = .ok (.iconst 2, 1) := by decide +kernel
theorem dX6_rests_174 : decode cX6_rests 174 = .ok (.if_icmp .ne 8, 3) := by decide +kernel
theorem dX6_rests_177 : decode cX6_rests 177 = .ok (.iload 4, 2) := by decide +kernel
theorem dX6_rests_179 : decode cX6_rests 179 = .ok (.goto 5, 3) := by decide +kernel
theorem dX6_rests_182 : decode cX6_rests 182 = .ok (.iload 6, 2) := by decide +kernel
theorem dX6_rests_184 : decode cX6_rests 184 = .ok (.ireturn, 1) := by decide +kernel
set_option maxRecDepth 20000 in
theorem ggX6_standsStill_X6_valueOf : GoodIn wsX6_standsStill wsX6_valueOf := goodIn_r _ [7, 8, 9, 2, 10, 11, 12, 13, 6, 14, 1, 15, 16, 17, 18, 19, 20, 21, 22, 23, 24, 25, 26, 27, 28, 29, 30, 31, 32, 33, 34, 35, 36, 37, 38, 39, 40, 41, 42, 43, 44, 45, 46, 47, 48, 49, 50, 51, 52, 53, 54, 55, 56, 57, 58, 59, 60, 61, 62, 63, 64, 65, 66, 67, 68, 69, 70, 71, 72, 73, 74, 75, 76, 77, 78, 79, 80, 81, 82, 83, 84, 85, 86, 87, 88, 89, 90, 91, 92, 93, 94, 95] rfl (by decide +kernel)
set_option maxRecDepth 20000 in
theorem gX6_standsStill_X6_valueOf : GoodIn wsX6_standsStill (wsV RX6 292 RX6 yX6_valueOf wsX6_valueOf) := goodIn_app (goodIn_of _ (by decide +kernel)) ggX6_standsStill_X6_valueOf
theorem dX6_standsStill_0 : decode cX6_standsStill 0 = .ok (.iconst 0, 1) := by decide +kernel
theorem dX6_standsStill_1 : decode cX6_standsStill 1 = .ok (.istore_n 2, 1) := by decide +kernel
theorem dX6_standsStill_2 : decode cX6_standsStill 2 = .ok (.iload_n 2, 1) := by decide +kernel
theorem dX6_standsStill_3 : decode cX6_standsStill 3 = .ok (.aload_n 0, 1) := by decide +kernel
theorem dX6_standsStill_4 : decode cX6_standsStill 4 = .ok (.getfield 7, 3) := by decide +kernel
theorem dX6_standsStill_7 : decode cX6_standsStill 7 = .ok (.if_icmp .ge 20, 3) := by decide +kernel
theorem dX6_standsStill_10 : decode cX6_standsStill 10 = .ok (.aload_n 0, 1) := by decide +kernel
theorem dX6_standsStill_11 : decode cX6_standsStill 11 = .ok (.getfield 99, 3) := by decide +kernel
theorem dX6_standsStill_14 : decode cX6_standsStill 14 = .ok (.iload_n 2, 1) := by decide +kernel
theorem dX6_standsStill_15 : decode cX6_standsStill 15 = .ok (.iload_n 1, 1) := by decide +kernel
theorem dX6_standsStill_16 : decode cX6_standsStill 16 = .ok (.iload_n 2, 1) := by decide +kernel
theorem dX6_standsStill_17 : decode cX6_standsStill 17 = .ok (.ishr, 1) := by decide +kernel
theorem dX6_standsStill_18 : decode cX6_standsStill 18 = .ok (.iconst 1, 1) := by decide +kernel
theorem dX6_standsStill_19 : decode cX6_standsStill 19 = .ok (.iand, 1) := by decide +kernel
theorem dX6_standsStill_20 : decode cX6_standsStill 20 = .ok (.iastore, 1) := by decide +kernel
theorem dX6_standsStill_21 : decode cX6_standsStill 21 = .ok (.iinc 2 1, 3) := by decide +kernel
theorem dX6_standsStill_24 : decode cX6_standsStill 24 = .ok (.goto (-22), 3) := by decide +kernel
theorem dX6_standsStill_27 : decode cX6_standsStill 27 = .ok (.iconst 0, 1) := by decide +kernel
theorem dX6_standsStill_28 : decode cX6_standsStill 28 = .ok (.istore_n 2, 1) := by decide +kernel
theorem dX6_standsStill_29 : decode cX6_standsStill 29 = .ok (.iload_n 2, 1) := by decide +kernel
theorem dX6_standsStill_30 : decode cX6_standsStill 30 = .ok (.aload_n 0, 1) := by decide +kernel
theorem dX6_standsStill_31 : decode cX6_standsStill 31 = .ok (.getfield 7, 3) := by decide +kernel
theorem dX6_standsStill_34 : decode cX6_standsStill 34 = .ok (.if_icmp .ge 81, 3) := by decide +kernel
theorem dX6_standsStill_37 : decode cX6_standsStill 37 = .ok (.aload_n 0, 1) := by decide +kernel
theorem dX6_standsStill_38 : decode cX6_standsStill 38 = .ok (.getfield 99, 3) := by decide +kernel
theorem dX6_standsStill_41 : decode cX6_standsStill 41 = .ok (.iload_n 2, 1) := by decide +kernel
theorem dX6_standsStill_42 : decode cX6_standsStill 42 = .ok (.iaload, 1) := by decide +kernel
theorem dX6_standsStill_43 : decode cX6_standsStill 43 = .ok (.iconst 1, 1) := by decide +kernel
theorem dX6_standsStill_44 : decode cX6_standsStill 44 = .ok (.if_icmp .ne 6, 3) := by decide +kernel
theorem dX6_standsStill_47 : decode cX6_standsStill 47 = .ok (.goto 62, 3) := by decide +kernel
theorem dX6_standsStill_50 : decode cX6_standsStill 50 = .ok (.aload_n 0, 1) := by decide +kernel
theorem dX6_standsStill_51 : decode cX6_standsStill 51 = .ok (.iload_n 2, 1) := by decide +kernel
theorem dX6_standsStill_52 : decode cX6_standsStill 52 = .ok (.invokevirtual 292, 3) := by decide +kernel
theorem dX6_standsStill_55 : decode cX6_standsStill 55 = .ok (.istore_n 3, 1) := by decide +kernel
theorem dX6_standsStill_56 : decode cX6_standsStill 56 = .ok (.iconst 2, 1) := by decide +kernel
theorem dX6_standsStill_57 : decode cX6_standsStill 57 = .ok (.istore 4, 2) := by decide +kernel
theorem dX6_standsStill_59 : decode cX6_standsStill 59 = .ok (.iload 4, 2) := by decide +kernel
theorem dX6_standsStill_61 : decode cX6_standsStill 61 = .ok (.iconst 3, 1) := by decide +kernel
theorem dX6_standsStill_62 : decode cX6_standsStill 62 = .ok (.if_icmp .gt 47, 3) := by decide +kernel
theorem dX6_standsStill_65 : decode cX6_standsStill 65 = .ok (.aload_n 0, 1) := by decide +kernel
theorem dX6_standsStill_66 : decode cX6_standsStill 66 = .ok (.getfield 99, 3) := by decide +kernel
theorem dX6_standsStill_69 : decode cX6_standsStill 69 = .ok (.iload_n 2, 1) := by decide +kernel
theorem dX6_standsStill_70 : decode cX6_standsStill 70 = .ok (.iload 4, 2) := by decide +kernel
theorem dX6_standsStill_72 : decode cX6_standsStill 72 = .ok (.iastore, 1) := by decide +kernel
theorem dX6_standsStill_73 : decode cX6_standsStill 73 = .ok (.aload_n 0, 1) := by decide +kernel
theorem dX6_standsStill_74 : decode cX6_standsStill 74 = .ok (.iload_n 2, 1) := by decide +kernel
theorem dX6_standsStill_75 : decode cX6_standsStill 75 = .ok (.invokevirtual 292, 3) := by decide +kernel
theorem dX6_standsStill_78 : decode cX6_standsStill 78 = .ok (.iload_n 3, 1) := by decide +kernel
theorem dX6_standsStill_79 : decode cX6_standsStill 79 = .ok (.if_icmp .le 7, 3) := by decide +kernel
theorem dX6_standsStill_82 : decode cX6_standsStill 82 = .ok (.iconst 1, 1) := by decide +kernel
theorem dX6_standsStill_83 : decode cX6_standsStill 83 = .ok (.goto 4, 3) := by decide +kernel
theorem dX6_standsStill_86 : decode cX6_standsStill 86 = .ok (.iconst 0, 1) := by decide +kernel
theorem dX6_standsStill_87 : decode cX6_standsStill 87 = .ok (.istore 5, 2) := by decide +kernel
theorem dX6_standsStill_89 : decode cX6_standsStill 89 = .ok (.aload_n 0, 1) := by decide +kernel
theorem dX6_standsStill_90 : decode cX6_standsStill 90 = .ok (.getfield 99, 3) := by decide +kernel
theorem dX6_standsStill_93 : decode cX6_standsStill 93 = .ok (.iload_n 2, 1) := by decide +kernel
theorem dX6_standsStill_94 : decode cX6_standsStill 94 = .ok (.iconst 0, 1) := by decide +kernel
theorem dX6_standsStill_95 : decode cX6_standsStill 95 = .ok (.iastore, 1) := by decide +kernel
theorem dX6_standsStill_96 : decode cX6_standsStill 96 = .ok (.iload 5, 2) := by decide +kernel
theorem dX6_standsStill_98 : decode cX6_standsStill 98 = .ok (.ifCond .eq 5, 3) := by decide +kernel
theorem dX6_standsStill_101 : decode cX6_standsStill 101 = .ok (.iconst 0, 1) := by decide +kernel
theorem dX6_standsStill_102 : decode cX6_standsStill 102 = .ok (.ireturn, 1) := by decide +kernel
theorem dX6_standsStill_103 : decode cX6_standsStill 103 = .ok (.iinc 4 1, 3) := by decide +kernel
theorem dX6_standsStill_106 : decode cX6_standsStill 106 = .ok (.goto (-47), 3) := by decide +kernel
theorem dX6_standsStill_109 : decode cX6_standsStill 109 = .ok (.iinc 2 1, 3) := by decide +kernel
theorem dX6_standsStill_112 : decode cX6_standsStill 112 = .ok (.goto (-83), 3) := by decide +kernel
theorem dX6_standsStill_115 : decode cX6_standsStill 115 = .ok (.iconst 1, 1) := by decide +kernel
theorem dX6_standsStill_116 : decode cX6_standsStill 116 = .ok (.ireturn, 1) := by decide +kernel
set_option maxRecDepth 20000 in
theorem ggX6_stillSet_X6_ones : GoodIn wsX6_stillSet wsX6_ones := goodIn_r _ [6] rfl (by decide +kernel)
set_option maxRecDepth 20000 in
theorem gX6_stillSet_X6_ones : GoodIn wsX6_stillSet (wsV RX6 305 RX6 yX6_ones wsX6_ones) := goodIn_app (goodIn_of _ (by decide +kernel)) ggX6_stillSet_X6_ones
set_option maxRecDepth 20000 in
theorem ggX6_stillSet_X6_standsStill : GoodIn wsX6_stillSet wsX6_standsStill := goodIn_r _ [10, 1, 11, 12, 13, 14, 5, 15, 16, 17, 18, 19, 20, 21, 22, 23, 24, 25, 26, 27, 28, 29, 30, 31, 32, 33, 34, 35, 36, 37, 38, 39, 40, 41, 42, 43, 44, 45, 46, 47, 48, 49, 50, 51, 52, 53, 54, 55, 56, 57, 58, 59, 60, 61, 62, 63, 64, 65, 66, 67, 68, 69, 70, 71, 72, 73, 74, 75, 76, 77, 78, 79, 80, 81, 82, 83, 84, 85, 86, 87, 88, 89, 90, 91, 92, 93, 94, 95, 96, 97, 98, 99, 100, 101, 102, 103] rfl (by decide +kernel)
set_option maxRecDepth 20000 in
theorem gX6_stillSet_X6_standsStill : GoodIn wsX6_stillSet (wsV RX6 308 RX6 yX6_standsStill wsX6_standsStill) := goodIn_app (goodIn_of _ (by decide +kernel)) ggX6_stillSet_X6_standsStill
theorem dX6_stillSet_0 : decode cX6_stillSet 0 = .ok (.iconst (-1), 1) := by decide +kernel
theorem dX6_stillSet_1 : decode cX6_stillSet 1 = .ok (.istore_n 1, 1) := by decide +kernel
theorem dX6_stillSet_2 : decode cX6_stillSet 2 = .ok (.iconst 0, 1) := by decide +kernel
theorem dX6_stillSet_3 : decode cX6_stillSet 3 = .ok (.istore_n 2, 1) := by decide +kernel
theorem dX6_stillSet_4 : decode cX6_stillSet 4 = .ok (.iload_n 2, 1) := by decide +kernel
theorem dX6_stillSet_5 : decode cX6_stillSet 5 = .ok (.iconst 1, 1) := by decide +kernel
theorem dX6_stillSet_6 : decode cX6_stillSet 6 = .ok (.aload_n 0, 1) := by decide +kernel
theorem dX6_stillSet_7 : decode cX6_stillSet 7 = .ok (.getfield 7, 3) := by decide +kernel
theorem dX6_stillSet_10 : decode cX6_stillSet 10 = .ok (.ishl, 1) := by decide +kernel
theorem dX6_stillSet_11 : decode cX6_stillSet 11 = .ok (.if_icmp .ge 37, 3) := by decide +kernel
theorem dX6_stillSet_14 : decode cX6_stillSet 14 = .ok (.iload_n 1, 1) := by decide +kernel
theorem dX6_stillSet_15 : decode cX6_stillSet 15 = .ok (.iconst (-1), 1) := by decide +kernel
theorem dX6_stillSet_16 : decode cX6_stillSet 16 = .ok (.if_icmp .eq 16, 3) := by decide +kernel
theorem dX6_stillSet_19 : decode cX6_stillSet 19 = .ok (.aload_n 0, 1) := by decide +kernel
theorem dX6_stillSet_20 : decode cX6_stillSet 20 = .ok (.iload_n 2, 1) := by decide +kernel
theorem dX6_stillSet_21 : decode cX6_stillSet 21 = .ok (.invokevirtual 305, 3) := by decide +kernel
theorem dX6_stillSet_24 : decode cX6_stillSet 24 = .ok (.aload_n 0, 1) := by decide +kernel
theorem dX6_stillSet_25 : decode cX6_stillSet 25 = .ok (.iload_n 1, 1) := by decide +kernel
theorem dX6_stillSet_26 : decode cX6_stillSet 26 = .ok (.invokevirtual 305, 3) := by decide +kernel
theorem dX6_stillSet_29 : decode cX6_stillSet 29 = .ok (.if_icmp .ge 13, 3) := by decide +kernel
theorem dX6_stillSet_32 : decode cX6_stillSet 32 = .ok (.aload_n 0, 1) := by decide +kernel
theorem dX6_stillSet_33 : decode cX6_stillSet 33 = .ok (.iload_n 2, 1) := by decide +kernel
theorem dX6_stillSet_34 : decode cX6_stillSet 34 = .ok (.invokevirtual 308, 3) := by decide +kernel
theorem dX6_stillSet_37 : decode cX6_stillSet 37 = .ok (.ifCond .eq 5, 3) := by decide +kernel
theorem dX6_stillSet_40 : decode cX6_stillSet 40 = .ok (.iload_n 2, 1) := by decide +kernel
theorem dX6_stillSet_41 : decode cX6_stillSet 41 = .ok (.istore_n 1, 1) := by decide +kernel
theorem dX6_stillSet_42 : decode cX6_stillSet 42 = .ok (.iinc 2 1, 3) := by decide +kernel
theorem dX6_stillSet_45 : decode cX6_stillSet 45 = .ok (.goto (-41), 3) := by decide +kernel
theorem dX6_stillSet_48 : decode cX6_stillSet 48 = .ok (.iload_n 1, 1) := by decide +kernel
theorem dX6_stillSet_49 : decode cX6_stillSet 49 = .ok (.ireturn, 1) := by decide +kernel
set_option maxRecDepth 20000 in
theorem ggX6_still_X6_stillSet : GoodIn wsX6_still wsX6_stillSet := goodIn_r _ [6, 7, 8, 9, 10, 5, 11, 12, 13, 14, 15, 16, 17, 18, 19, 20, 21, 22, 23, 24, 25, 26, 27, 28, 29, 30, 31, 32, 33, 34, 35, 36, 37, 38, 39, 40, 41, 42, 43, 44, 45, 46, 47, 48, 49, 50, 51, 52, 53, 54, 55, 56, 57, 58, 59, 60, 61, 62, 63, 64, 65, 66, 67, 68, 69, 70, 71, 72, 73, 74, 75, 76, 77, 78, 79, 80, 81, 82, 83, 84, 85, 86, 87, 88, 89, 90, 91, 92, 93, 94, 95, 96, 97, 98, 99, 100, 101, 102, 103, 104, 105, 106, 107, 108] rfl (by decide +kernel)
set_option maxRecDepth 20000 in
theorem gX6_still_X6_stillSet : GoodIn wsX6_still (wsV RX6 311 RX6 yX6_stillSet wsX6_stillSet) := goodIn_app (goodIn_of _ (by decide +kernel)) ggX6_still_X6_stillSet
theorem dX6_still_0 : decode cX6_still 0 = .ok (.aload_n 0, 1) := by decide +kernel
theorem dX6_still_1 : decode cX6_still 1 = .ok (.iconst 0, 1) := by decide +kernel
theorem dX6_still_2 : decode cX6_still 2 = .ok (.putfield 121, 3) := by decide +kernel
theorem dX6_still_5 : decode cX6_still 5 = .ok (.aload_n 0, 1) := by decide +kernel
theorem dX6_still_6 : decode cX6_still 6 = .ok (.invokevirtual 311, 3) := by decide +kernel
theorem dX6_still_9 : decode cX6_still 9 = .ok (.ireturn, 1) := by decide +kernel
set_option maxRecDepth 20000 in
theorem ggX6_walls_X6_isIn : GoodIn wsX6_walls wsX6_isIn := goodIn_r _ [8] rfl (by decide +kernel)
set_option maxRecDepth 20000 in
theorem gX6_walls_X6_isIn : GoodIn wsX6_walls (wsV RX6 129 RX6 yX6_isIn wsX6_isIn) := goodIn_app (goodIn_of _ (by decide +kernel)) ggX6_walls_X6_isIn
set_option maxRecDepth 20000 in
theorem ggX6_walls_X6_ones : GoodIn wsX6_walls wsX6_ones := goodIn_r _ [12] rfl (by decide +kernel)
set_option maxRecDepth 20000 in
theorem gX6_walls_X6_ones : GoodIn wsX6_walls (wsV RX6 305 RX6 yX6_ones wsX6_ones) := goodIn_app (goodIn_of _ (by decide +kernel)) ggX6_walls_X6_ones
set_option maxRecDepth 20000 in
theorem ggX6_walls_X6_stillSet : GoodIn wsX6_walls wsX6_stillSet := goodIn_r _ [16, 2, 9, 10, 11, 7, 12, 17, 18, 19, 20, 21, 22, 23, 24, 25, 26, 27, 28, 29, 30, 31, 32, 33, 34, 35, 36, 37, 38, 39, 40, 3, 41, 42, 43, 44, 45, 46, 47, 48, 49, 50, 51, 52, 53, 54, 55, 56, 57, 58, 59, 60, 61, 62, 63, 64, 65, 66, 67, 68, 69, 70, 71, 72, 73, 74, 75, 76, 77, 78, 79, 80, 81, 82, 83, 84, 85, 86, 87, 88, 89, 90, 91, 92, 93, 94, 95, 96, 97, 98, 99, 100, 101, 102, 103, 104, 105, 106, 107, 108, 109, 110, 111, 112] rfl (by decide +kernel)
set_option maxRecDepth 20000 in
theorem gX6_walls_X6_stillSet : GoodIn wsX6_walls (wsV RX6 311 RX6 yX6_stillSet wsX6_stillSet) := goodIn_app (goodIn_of _ (by decide +kernel)) ggX6_walls_X6_stillSet
theorem dX6_walls_0 : decode cX6_walls 0 = .ok (.aload_n 0, 1) := by decide +kernel
theorem dX6_walls_1 : decode cX6_walls 1 = .ok (.iconst 0, 1) := by decide +kernel
theorem dX6_walls_2 : decode cX6_walls 2 = .ok (.putfield 121, 3) := by decide +kernel
theorem dX6_walls_5 : decode cX6_walls 5 = .ok (.aload_n 0, 1) := by decide +kernel
theorem dX6_walls_6 : decode cX6_walls 6 = .ok (.iload_n 1, 1) := by decide +kernel
theorem dX6_walls_7 : decode cX6_walls 7 = .ok (.iconst 0, 1) := by decide +kernel
theorem dX6_walls_8 : decode cX6_walls 8 = .ok (.iconst 2, 1) := by decide +kernel
theorem dX6_walls_9 : decode cX6_walls 9 = .ok (.invokevirtual 129, 3) := by decide +kernel
theorem dX6_walls_12 : decode cX6_walls 12 = .ok (.ifCond .eq 13, 3) := by decide +kernel
theorem dX6_walls_15 : decode cX6_walls 15 = .ok (.aload_n 0, 1) := by decide +kernel
theorem dX6_walls_16 : decode cX6_walls 16 = .ok (.iload_n 2, 1) := by decide +kernel
theorem dX6_walls_17 : decode cX6_walls 17 = .ok (.iconst 0, 1) := by decide +kernel
theorem dX6_walls_18 : decode cX6_walls 18 = .ok (.iconst 1, 1) := by decide +kernel
theorem dX6_walls_19 : decode cX6_walls 19 = .ok (.invokevirtual 129, 3) := by decide +kernel
theorem dX6_walls_22 : decode cX6_walls 22 = .ok (.ifCond .ne 5, 3) := by decide +kernel
theorem dX6_walls_25 : decode cX6_walls 25 = .ok (.iconst (-1), 1) := by decide +kernel
theorem dX6_walls_26 : decode cX6_walls 26 = .ok (.ireturn, 1) := by decide +kernel
theorem dX6_walls_27 : decode cX6_walls 27 = .ok (.iconst 0, 1) := by decide +kernel
theorem dX6_walls_28 : decode cX6_walls 28 = .ok (.istore_n 3, 1) := by decide +kernel
theorem dX6_walls_29 : decode cX6_walls 29 = .ok (.iconst 0, 1) := by decide +kernel
theorem dX6_walls_30 : decode cX6_walls 30 = .ok (.istore 4, 2) := by decide +kernel
theorem dX6_walls_32 : decode cX6_walls 32 = .ok (.iload 4, 2) := by decide +kernel
theorem dX6_walls_34 : decode cX6_walls 34 = .ok (.aload_n 0, 1) := by decide +kernel
theorem dX6_walls_35 : decode cX6_walls 35 = .ok (.getfield 7, 3) := by decide +kernel
theorem dX6_walls_38 : decode cX6_walls 38 = .ok (.if_icmp .ge 22, 3) := by decide +kernel
theorem dX6_walls_41 : decode cX6_walls 41 = .ok (.iload_n 3, 1) := by decide +kernel
theorem dX6_walls_42 : decode cX6_walls 42 = .ok (.aload_n 0, 1) := by decide +kernel
theorem dX6_walls_43 : decode cX6_walls 43 = .ok (.getfield 38, 3) := by decide +kernel
theorem dX6_walls_46 : decode cX6_walls 46 = .ok (.iload 4, 2) := by decide +kernel
theorem dX6_walls_48 : decode cX6_walls 48 = .ok (.iaload, 1) := by decide +kernel
theorem dX6_walls_49 : decode cX6_walls 49 = .ok (.iload 4, 2) := by decide +kernel
theorem dX6_walls_51 : decode cX6_walls 51 = .ok (.ishl, 1) := by decide +kernel
theorem dX6_walls_52 : decode cX6_walls 52 = .ok (.ior, 1) := by decide +kernel
theorem dX6_walls_53 : decode cX6_walls 53 = .ok (.istore_n 3, 1) := by decide +kernel
theorem dX6_walls_54 : decode cX6_walls 54 = .ok (.iinc 4 1, 3) := by decide +kernel
theorem dX6_walls_57 : decode cX6_walls 57 = .ok (.goto (-25), 3) := by decide +kernel
theorem dX6_walls_60 : decode cX6_walls 60 = .ok (.iconst (-1), 1) := by decide +kernel
theorem dX6_walls_61 : decode cX6_walls 61 = .ok (.istore 4, 2) := by decide +kernel
theorem dX6_walls_63 : decode cX6_walls 63 = .ok (.iconst 0, 1) := by decide +kernel
theorem dX6_walls_64 : decode cX6_walls 64 = .ok (.istore 5, 2) := by decide +kernel
theorem dX6_walls_66 : decode cX6_walls 66 = .ok (.iconst 0, 1) := by decide +kernel
theorem dX6_walls_67 : decode cX6_walls 67 = .ok (.istore 6, 2) := by decide +kernel
theorem dX6_walls_69 : decode cX6_walls 69 = .ok (.iload 6, 2) := by decide +kernel
theorem dX6_walls_71 : decode cX6_walls 71 = .ok (.iconst 1, 1) := by decide +kernel
theorem dX6_walls_72 : decode cX6_walls 72 = .ok (.aload_n 0, 1) := by decide +kernel
theorem dX6_walls_73 : decode cX6_walls 73 = .ok (.getfield 7, 3) := by decide +kernel
theorem dX6_walls_76 : decode cX6_walls 76 = .ok (.ishl, 1) := by decide +kernel
theorem dX6_walls_77 : decode cX6_walls 77 = .ok (.if_icmp .ge 134, 3) := by decide +kernel
theorem dX6_walls_80 : decode cX6_walls 80 = .ok (.aload_n 0, 1) := by decide +kernel
theorem dX6_walls_81 : decode cX6_walls 81 = .ok (.iload 6, 2) := by decide +kernel
theorem dX6_walls_83 : decode cX6_walls 83 = .ok (.invokevirtual 305, 3) := by decide +kernel
theorem dX6_walls_86 : decode cX6_walls 86 = .ok (.iload_n 1, 1) := by decide +kernel
theorem dX6_walls_87 : decode cX6_walls 87 = .ok (.if_icmp .gt 118, 3) := by decide +kernel
theorem dX6_walls_90 : decode cX6_walls 90 = .ok (.iload 6, 2) := by decide +kernel
theorem dX6_walls_92 : decode cX6_walls 92 = .ok (.iload_n 3, 1) := by decide +kernel
theorem dX6_walls_93 : decode cX6_walls 93 = .ok (.iand, 1) := by decide +kernel
theorem dX6_walls_94 : decode cX6_walls 94 = .ok (.ifCond .eq 6, 3) := by decide +kernel
theorem dX6_walls_97 : decode cX6_walls 97 = .ok (.goto 108, 3) := by decide +kernel
theorem dX6_walls_100 : decode cX6_walls 100 = .ok (.iconst 0, 1) := by decide +kernel
theorem dX6_walls_101 : decode cX6_walls 101 = .ok (.istore 7, 2) := by decide +kernel
theorem dX6_walls_103 : decode cX6_walls 103 = .ok (.iload 7, 2) := by decide +kernel
theorem dX6_walls_105 : decode cX6_walls 105 = .ok (.aload_n 0, 1) := by decide +kernel
theorem dX6_walls_106 : decode cX6_walls 106 = .ok (.getfield 7, 3) := by decide +kernel
theorem dX6_walls_109 : decode cX6_walls 109 = .ok (.if_icmp .ge 25, 3) := by decide +kernel
theorem dX6_walls_112 : decode cX6_walls 112 = .ok (.aload_n 0, 1) := by decide +kernel
theorem dX6_walls_113 : decode cX6_walls 113 = .ok (.getfield 38, 3) := by decide +kernel
theorem dX6_walls_116 : decode cX6_walls 116 = .ok (.iload 7, 2) := by decide +kernel
theorem dX6_walls_118 : decode cX6_walls 118 = .ok (.iload 6, 2) := by decide +kernel
theorem dX6_walls_120 : decode cX6_walls 120 = .ok (.iload_n 3, 1) := by decide +kernel
theorem dX6_walls_121 : decode cX6_walls 121 = .ok (.ior, 1) := by decide +kernel
theorem dX6_walls_122 : decode cX6_walls 122 = .ok (.iload 7, 2) := by decide +kernel
theorem dX6_walls_124 : decode cX6_walls 124 = .ok (.ishr, 1) := by decide +kernel
theorem dX6_walls_125 : decode cX6_walls 125 = .ok (.iconst 1, 1) := by decide +kernel
theorem dX6_walls_126 : decode cX6_walls 126 = .ok (.iand, 1) := by decide +kernel
theorem dX6_walls_127 : decode cX6_walls 127 = .ok (.iastore, 1) := by decide +kernel
theorem dX6_walls_128 : decode cX6_walls 128 = .ok (.iinc 7 1, 3) := by decide +kernel
theorem dX6_walls_131 : decode cX6_walls 131 = .ok (.goto (-28), 3) := by decide +kernel
theorem dX6_walls_134 : decode cX6_walls 134 = .ok (.aload_n 0, 1) := by decide +kernel
theorem dX6_walls_135 : decode cX6_walls 135 = .ok (.invokevirtual 311, 3) := by decide +kernel
theorem dX6_walls_138 : decode cX6_walls 138 = .ok (.istore 7, 2) := by decide +kernel
theorem dX6_walls_140 : decode cX6_walls 140 = .ok (.iload 7, 2) := by decide +kernel
theorem dX6_walls_142 : decode cX6_walls 142 = .ok (.iconst (-1), 1) := by decide +kernel
theorem dX6_walls_143 : decode cX6_walls 143 = .ok (.if_icmp .ne 8, 3) := by decide +kernel
theorem dX6_walls_146 : decode cX6_walls 146 = .ok (.bipush 99, 2) := by decide +kernel
theorem dX6_walls_148 : decode cX6_walls 148 = .ok (.goto 9, 3) := by decide +kernel
theorem dX6_walls_151 : decode cX6_walls 151 = .ok (.aload_n 0, 1) := by decide +kernel
theorem dX6_walls_152 : decode cX6_walls 152 = .ok (.iload 7, 2) := by decide +kernel
theorem dX6_walls_154 : decode cX6_walls 154 = .ok (.invokevirtual 305, 3) := by decide +kernel
theorem dX6_walls_157 : decode cX6_walls 157 = .ok (.istore 8, 2) := by decide +kernel
theorem dX6_walls_159 : decode cX6_walls 159 = .ok (.iload 4, 2) := by decide +kernel
theorem dX6_walls_161 : decode cX6_walls 161 = .ok (.iconst (-1), 1) := by decide +kernel
theorem dX6_walls_162 : decode cX6_walls 162 = .ok (.if_icmp .eq 35, 3) := by decide +kernel
theorem dX6_walls_165 : decode cX6_walls 165 = .ok (.iload 8, 2) := by decide +kernel
theorem dX6_walls_167 : decode cX6_walls 167 = .ok (.iload 5, 2) := by decide +kernel
theorem dX6_walls_169 : decode cX6_walls 169 = .ok (.if_icmp .gt 36, 3) := by decide +kernel
theorem dX6_walls_172 : decode cX6_walls 172 = .ok (.iload 8, 2) := by decide +kernel
theorem dX6_walls_174 : decode cX6_walls 174 = .ok (.iload 5, 2) := by decide +kernel
theorem dX6_walls_176 : decode cX6_walls 176 = .ok (.if_icmp .ne 21, 3) := by decide +kernel
theorem dX6_walls_179 : decode cX6_walls 179 = .ok (.aload_n 0, 1) := by decide +kernel
theorem dX6_walls_180 : decode cX6_walls 180 = .ok (.iload 6, 2) := by decide +kernel
theorem dX6_walls_182 : decode cX6_walls 182 = .ok (.invokevirtual 305, 3) := by decide +kernel
theorem dX6_walls_185 : decode cX6_walls 185 = .ok (.aload_n 0, 1) := by decide +kernel
theorem dX6_walls_186 : decode cX6_walls 186 = .ok (.iload 4, 2) := by decide +kernel
theorem dX6_walls_188 : decode cX6_walls 188 = .ok (.invokevirtual 305, 3) := by decide +kernel
theorem dX6_walls_191 : decode cX6_walls 191 = .ok (.if_icmp .lt 6, 3) := by decide +kernel
theorem dX6_walls_194 : decode cX6_walls 194 = .ok (.goto 11, 3) := by decide +kernel
theorem dX6_walls_197 : decode cX6_walls 197 = .ok (.iload 6, 2) := by decide +kernel
theorem dX6_walls_199 : decode cX6_walls 199 = .ok (.istore 4, 2) := by decide +kernel
theorem dX6_walls_201 : decode cX6_walls 201 = .ok (.iload 8, 2) := by decide +kernel
theorem dX6_walls_203 : decode cX6_walls 203 = .ok (.istore 5, 2) := by decide +kernel
theorem dX6_walls_205 : decode cX6_walls 205 = .ok (.iinc 6 1, 3) := by decide +kernel
theorem dX6_walls_208 : decode cX6_walls 208 = .ok (.goto (-139), 3) := by decide +kernel
theorem dX6_walls_211 : decode cX6_walls 211 = .ok (.iconst 0, 1) := by decide +kernel
theorem dX6_walls_212 : decode cX6_walls 212 = .ok (.istore 6, 2) := by decide +kernel
theorem dX6_walls_214 : decode cX6_walls 214 = .ok (.iload 6, 2) := by decide +kernel
theorem dX6_walls_216 : decode cX6_walls 216 = .ok (.aload_n 0, 1) := by decide +kernel
theorem dX6_walls_217 : decode cX6_walls 217 = .ok (.getfield 7, 3) := by decide +kernel
theorem dX6_walls_220 : decode cX6_walls 220 = .ok (.if_icmp .ge 22, 3) := by decide +kernel
theorem dX6_walls_223 : decode cX6_walls 223 = .ok (.aload_n 0, 1) := by decide +kernel
theorem dX6_walls_224 : decode cX6_walls 224 = .ok (.getfield 38, 3) := by decide +kernel
theorem dX6_walls_227 : decode cX6_walls 227 = .ok (.iload 6, 2) := by decide +kernel
theorem dX6_walls_229 : decode cX6_walls 229 = .ok (.iload_n 3, 1) := by decide +kernel
theorem dX6_walls_230 : decode cX6_walls 230 = .ok (.iload 6, 2) := by decide +kernel
theorem dX6_walls_232 : decode cX6_walls 232 = .ok (.ishr, 1) := by decide +kernel
theorem dX6_walls_233 : decode cX6_walls 233 = .ok (.iconst 1, 1) := by decide +kernel
theorem dX6_walls_234 : decode cX6_walls 234 = .ok (.iand, 1) := by decide +kernel
theorem dX6_walls_235 : decode cX6_walls 235 = .ok (.iastore, 1) := by decide +kernel
theorem dX6_walls_236 : decode cX6_walls 236 = .ok (.iinc 6 1, 3) := by decide +kernel
theorem dX6_walls_239 : decode cX6_walls 239 = .ok (.goto (-25), 3) := by decide +kernel
theorem dX6_walls_242 : decode cX6_walls 242 = .ok (.iload_n 2, 1) := by decide +kernel
theorem dX6_walls_243 : decode cX6_walls 243 = .ok (.ifCond .ne 8, 3) := by decide +kernel
theorem dX6_walls_246 : decode cX6_walls 246 = .ok (.iload 4, 2) := by decide +kernel
theorem dX6_walls_248 : decode cX6_walls 248 = .ok (.goto 5, 3) := by decide +kernel
theorem dX6_walls_251 : decode cX6_walls 251 = .ok (.iload 5, 2) := by decide +kernel
theorem dX6_walls_253 : decode cX6_walls 253 = .ok (.ireturn, 1) := by decide +kernel
set_option maxRecDepth 20000 in
theorem ggX6_pactValue_X6_rightOf : GoodIn wsX6_pactValue wsX6_rightOf := goodIn_r _ [7, 1, 41, 42, 43, 44, 45, 46, 47, 48, 49, 50, 51, 52, 53, 54, 55, 56, 57, 58, 59, 60, 61, 62, 63, 64, 65, 66, 67, 68, 69, 70, 71, 72, 73, 74, 75, 76, 77, 78, 79, 80, 81, 82, 83, 84, 85, 86, 87, 88, 89, 90, 91, 92, 93, 94, 95] rfl (by decide +kernel)
set_option maxRecDepth 20000 in
theorem gX6_pactValue_X6_rightOf : GoodIn wsX6_pactValue (wsV RX6 248 RX6 yX6_rightOf wsX6_rightOf) := goodIn_app (goodIn_of _ (by decide +kernel)) ggX6_pactValue_X6_rightOf
set_option maxRecDepth 20000 in
theorem ggX6_pactValue_X6_valueOf : GoodIn wsX6_pactValue wsX6_valueOf := goodIn_r _ [11, 12, 13, 2, 14, 15, 16, 17, 6, 18, 1, 3, 4, 5, 7, 19, 20, 21, 22, 23, 24, 25, 26, 27, 28, 29, 30, 31, 32, 33, 34, 35, 36, 37, 38, 39, 40, 41, 42, 43, 44, 45, 46, 47, 48, 49, 50, 51, 52, 53, 54, 55, 56, 57, 58, 59, 60, 61, 62, 63, 64, 65, 66, 67, 68, 69, 70, 71, 72, 73, 74, 75, 76, 77, 78, 79, 80, 81, 82, 83, 84, 85, 86, 87, 88, 89, 90, 91, 92, 93, 94, 95] rfl (by decide +kernel)
set_option maxRecDepth 20000 in
theorem gX6_pactValue_X6_valueOf : GoodIn wsX6_pactValue (wsV RX6 292 RX6 yX6_valueOf wsX6_valueOf) := goodIn_app (goodIn_of _ (by decide +kernel)) ggX6_pactValue_X6_valueOf
theorem dX6_pactValue_0 : decode cX6_pactValue 0 = .ok (.iconst 0, 1) := by decide +kernel
theorem dX6_pactValue_1 : decode cX6_pactValue 1 = .ok (.istore 4, 2) := by decide +kernel
theorem dX6_pactValue_3 : decode cX6_pactValue 3 = .ok (.iload 4, 2) := by decide +kernel
theorem dX6_pactValue_5 : decode cX6_pactValue 5 = .ok (.aload_n 0, 1) := by decide +kernel
theorem dX6_pactValue_6 : decode cX6_pactValue 6 = .ok (.getfield 7, 3) := by decide +kernel
theorem dX6_pactValue_9 : decode cX6_pactValue 9 = .ok (.if_icmp .ge 17, 3) := by decide +kernel
theorem dX6_pactValue_12 : decode cX6_pactValue 12 = .ok (.aload_n 0, 1) := by decide +kernel
theorem dX6_pactValue_13 : decode cX6_pactValue 13 = .ok (.getfield 99, 3) := by decide +kernel
theorem dX6_pactValue_16 : decode cX6_pactValue 16 = .ok (.iload 4, 2) := by decide +kernel
theorem dX6_pactValue_18 : decode cX6_pactValue 18 = .ok (.iconst 0, 1) := by decide +kernel
theorem dX6_pactValue_19 : decode cX6_pactValue 19 = .ok (.iastore, 1) := by decide +kernel
theorem dX6_pactValue_20 : decode cX6_pactValue 20 = .ok (.iinc 4 1, 3) := by decide +kernel
theorem dX6_pactValue_23 : decode cX6_pactValue 23 = .ok (.goto (-20), 3) := by decide +kernel
theorem dX6_pactValue_26 : decode cX6_pactValue 26 = .ok (.aload_n 0, 1) := by decide +kernel
theorem dX6_pactValue_27 : decode cX6_pactValue 27 = .ok (.getfield 99, 3) := by decide +kernel
theorem dX6_pactValue_30 : decode cX6_pactValue 30 = .ok (.aload_n 0, 1) := by decide +kernel
theorem dX6_pactValue_31 : decode cX6_pactValue 31 = .ok (.iload_n 1, 1) := by decide +kernel
theorem dX6_pactValue_32 : decode cX6_pactValue 32 = .ok (.invokevirtual 248, 3) := by decide +kernel
theorem dX6_pactValue_35 : decode cX6_pactValue 35 = .ok (.iload_n 3, 1) := by decide +kernel
theorem dX6_pactValue_36 : decode cX6_pactValue 36 = .ok (.iastore, 1) := by decide +kernel
theorem dX6_pactValue_37 : decode cX6_pactValue 37 = .ok (.aload_n 0, 1) := by decide +kernel
theorem dX6_pactValue_38 : decode cX6_pactValue 38 = .ok (.getfield 99, 3) := by decide +kernel
theorem dX6_pactValue_41 : decode cX6_pactValue 41 = .ok (.iload_n 1, 1) := by decide +kernel
theorem dX6_pactValue_42 : decode cX6_pactValue 42 = .ok (.iload_n 2, 1) := by decide +kernel
theorem dX6_pactValue_43 : decode cX6_pactValue 43 = .ok (.iastore, 1) := by decide +kernel
theorem dX6_pactValue_44 : decode cX6_pactValue 44 = .ok (.aload_n 0, 1) := by decide +kernel
theorem dX6_pactValue_45 : decode cX6_pactValue 45 = .ok (.iload_n 1, 1) := by decide +kernel
theorem dX6_pactValue_46 : decode cX6_pactValue 46 = .ok (.invokevirtual 292, 3) := by decide +kernel
theorem dX6_pactValue_49 : decode cX6_pactValue 49 = .ok (.ireturn, 1) := by decide +kernel
set_option maxRecDepth 20000 in
theorem ggX6_holds_X6_pactValue : GoodIn wsX6_holds wsX6_pactValue := goodIn_r _ [5, 6, 7, 8, 9, 10, 4, 11, 12, 13, 14, 15, 16, 17, 18, 19, 20, 21, 22, 23, 24, 25, 26, 27, 28, 29, 30, 31, 32, 33, 34, 35, 36, 37, 38, 39, 40, 41, 42, 43, 44, 45, 46, 47, 48, 49, 50, 51, 52, 53, 54, 55, 56, 57, 58, 59, 60, 61, 62, 63, 64, 65, 66, 67, 68, 69, 70, 71, 72, 73, 74, 75, 76, 77, 78, 79, 80, 81, 82, 83, 84, 85, 86, 87, 88, 89, 90, 91, 92, 93, 94, 95, 96, 97, 98, 99] rfl (by decide +kernel)
set_option maxRecDepth 20000 in
theorem gX6_holds_X6_pactValue : GoodIn wsX6_holds (wsV RX6 314 RX6 yX6_pactValue wsX6_pactValue) := goodIn_app (goodIn_of _ (by decide +kernel)) ggX6_holds_X6_pactValue
theorem dX6_holds_0 : decode cX6_holds 0 = .ok (.aload_n 0, 1) := by decide +kernel
theorem dX6_holds_1 : decode cX6_holds 1 = .ok (.iload_n 1, 1) := by decide +kernel
theorem dX6_holds_2 : decode cX6_holds 2 = .ok (.iconst 0, 1) := by decide +kernel
theorem dX6_holds_3 : decode cX6_holds 3 = .ok (.iconst 0, 1) := by decide +kernel
theorem dX6_holds_4 : decode cX6_holds 4 = .ok (.invokevirtual 314, 3) := by decide +kernel
theorem dX6_holds_7 : decode cX6_holds 7 = .ok (.istore_n 3, 1) := by decide +kernel
theorem dX6_holds_8 : decode cX6_holds 8 = .ok (.aload_n 0, 1) := by decide +kernel
theorem dX6_holds_9 : decode cX6_holds 9 = .ok (.iload_n 1, 1) := by decide +kernel
theorem dX6_holds_10 : decode cX6_holds 10 = .ok (.iconst 3, 1) := by decide +kernel
theorem dX6_holds_11 : decode cX6_holds 11 = .ok (.iconst 0, 1) := by decide +kernel
theorem dX6_holds_12 : decode cX6_holds 12 = .ok (.invokevirtual 314, 3) := by decide +kernel
theorem dX6_holds_15 : decode cX6_holds 15 = .ok (.iload_n 3, 1) := by decide +kernel
theorem dX6_holds_16 : decode cX6_holds 16 = .ok (.isub, 1) := by decide +kernel
theorem dX6_holds_17 : decode cX6_holds 17 = .ok (.i2l, 1) := by decide +kernel
theorem dX6_holds_18 : decode cX6_holds 18 = .ok (.lstore 4, 2) := by decide +kernel
theorem dX6_holds_20 : decode cX6_holds 20 = .ok (.iload_n 3, 1) := by decide +kernel
theorem dX6_holds_21 : decode cX6_holds 21 = .ok (.aload_n 0, 1) := by decide +kernel
theorem dX6_holds_22 : decode cX6_holds 22 = .ok (.iload_n 1, 1) := by decide +kernel
theorem dX6_holds_23 : decode cX6_holds 23 = .ok (.iconst 3, 1) := by decide +kernel
theorem dX6_holds_24 : decode cX6_holds 24 = .ok (.iconst 2, 1) := by decide +kernel
theorem dX6_holds_25 : decode cX6_holds 25 = .ok (.invokevirtual 314, 3) := by decide +kernel
theorem dX6_holds_28 : decode cX6_holds 28 = .ok (.isub, 1) := by decide +kernel
theorem dX6_holds_29 : decode cX6_holds 29 = .ok (.i2l, 1) := by decide +kernel
theorem dX6_holds_30 : decode cX6_holds 30 = .ok (.lstore 6, 2) := by decide +kernel
theorem dX6_holds_32 : decode cX6_holds 32 = .ok (.lload 4, 2) := by decide +kernel
theorem dX6_holds_34 : decode cX6_holds 34 = .ok (.sipush 1000, 3) := by decide +kernel
theorem dX6_holds_37 : decode cX6_holds 37 = .ok (.iload_n 2, 1) := by decide +kernel
theorem dX6_holds_38 : decode cX6_holds 38 = .ok (.isub, 1) := by decide +kernel
theorem dX6_holds_39 : decode cX6_holds 39 = .ok (.i2l, 1) := by decide +kernel
theorem dX6_holds_40 : decode cX6_holds 40 = .ok (.lmul, 1) := by decide +kernel
theorem dX6_holds_41 : decode cX6_holds 41 = .ok (.lload 6, 2) := by decide +kernel
theorem dX6_holds_43 : decode cX6_holds 43 = .ok (.iload_n 2, 1) := by decide +kernel
theorem dX6_holds_44 : decode cX6_holds 44 = .ok (.i2l, 1) := by decide +kernel
theorem dX6_holds_45 : decode cX6_holds 45 = .ok (.lmul, 1) := by decide +kernel
theorem dX6_holds_46 : decode cX6_holds 46 = .ok (.lcmp, 1) := by decide +kernel
theorem dX6_holds_47 : decode cX6_holds 47 = .ok (.ifCond .gt 7, 3) := by decide +kernel
theorem dX6_holds_50 : decode cX6_holds 50 = .ok (.iconst 1, 1) := by decide +kernel
theorem dX6_holds_51 : decode cX6_holds 51 = .ok (.goto 4, 3) := by decide +kernel
theorem dX6_holds_54 : decode cX6_holds 54 = .ok (.iconst 0, 1) := by decide +kernel
theorem dX6_holds_55 : decode cX6_holds 55 = .ok (.ireturn, 1) := by decide +kernel
set_option maxRecDepth 20000 in
theorem ggX6_pact_X6_isFarm : GoodIn wsX6_pact wsX6_isFarm := goodIn_r _ [6, 7, 58, 59, 60, 61, 62, 63, 64, 65, 66, 67, 68, 69, 70, 71, 72, 73, 74, 75, 76, 77, 78, 79, 80, 81, 82, 83, 84, 85, 86, 87, 88, 89, 90, 91, 92, 93, 94, 95, 96, 97, 98, 99, 100, 101, 102, 103, 104, 105, 106, 107, 108, 109, 110, 111, 112] rfl (by decide +kernel)
set_option maxRecDepth 20000 in
theorem gX6_pact_X6_isFarm : GoodIn wsX6_pact (wsV RX6 133 RX6 yX6_isFarm wsX6_isFarm) := goodIn_app (goodIn_of _ (by decide +kernel)) ggX6_pact_X6_isFarm
set_option maxRecDepth 20000 in
theorem ggX6_pact_X6_isIn : GoodIn wsX6_pact wsX6_isIn := goodIn_r _ [11] rfl (by decide +kernel)
set_option maxRecDepth 20000 in
theorem gX6_pact_X6_isIn : GoodIn wsX6_pact (wsV RX6 129 RX6 yX6_isIn wsX6_isIn) := goodIn_app (goodIn_of _ (by decide +kernel)) ggX6_pact_X6_isIn
set_option maxRecDepth 20000 in
theorem ggX6_pact_X6_holds : GoodIn wsX6_pact wsX6_holds := goodIn_r _ [15, 16, 17, 18, 5, 19, 7, 20, 21, 22, 23, 24, 25, 26, 27, 28, 29, 30, 31, 32, 33, 34, 35, 36, 37, 38, 39, 40, 41, 42, 43, 44, 45, 46, 47, 48, 49, 50, 51, 52, 53, 54, 55, 56, 57, 58, 59, 60, 61, 62, 63, 64, 65, 66, 67, 68, 69, 70, 71, 72, 73, 74, 75, 76, 77, 78, 79, 80, 81, 82, 83, 84, 85, 86, 87, 88, 89, 90, 91, 92, 93, 94, 95, 96, 97, 98, 99, 100, 101, 102, 103, 104, 105, 106, 107, 108, 109, 110, 111, 112] rfl (by decide +kernel)
set_option maxRecDepth 20000 in
theorem gX6_pact_X6_holds : GoodIn wsX6_pact (wsV RX6 317 RX6 yX6_holds wsX6_holds) := goodIn_app (goodIn_of _ (by decide +kernel)) ggX6_pact_X6_holds
theorem dX6_pact_0 : decode cX6_pact 0 = .ok (.aload_n 0, 1) := by decide +kernel
theorem dX6_pact_1 : decode cX6_pact 1 = .ok (.iconst 0, 1) := by decide +kernel
theorem dX6_pact_2 : decode cX6_pact 2 = .ok (.putfield 121, 3) := by decide +kernel
theorem dX6_pact_5 : decode cX6_pact 5 = .ok (.aload_n 0, 1) := by decide +kernel
theorem dX6_pact_6 : decode cX6_pact 6 = .ok (.iload_n 1, 1) := by decide +kernel
theorem dX6_pact_7 : decode cX6_pact 7 = .ok (.invokevirtual 133, 3) := by decide +kernel
theorem dX6_pact_10 : decode cX6_pact 10 = .ok (.ifCond .eq 15, 3) := by decide +kernel
theorem dX6_pact_13 : decode cX6_pact 13 = .ok (.aload_n 0, 1) := by decide +kernel
theorem dX6_pact_14 : decode cX6_pact 14 = .ok (.iload_n 2, 1) := by decide +kernel
theorem dX6_pact_15 : decode cX6_pact 15 = .ok (.iconst (-1), 1) := by decide +kernel
theorem dX6_pact_16 : decode cX6_pact 16 = .ok (.sipush 999, 3) := by decide +kernel
theorem dX6_pact_19 : decode cX6_pact 19 = .ok (.invokevirtual 129, 3) := by decide +kernel
theorem dX6_pact_22 : decode cX6_pact 22 = .ok (.ifCond .ne 5, 3) := by decide +kernel
theorem dX6_pact_25 : decode cX6_pact 25 = .ok (.iconst (-1), 1) := by decide +kernel
theorem dX6_pact_26 : decode cX6_pact 26 = .ok (.ireturn, 1) := by decide +kernel
theorem dX6_pact_27 : decode cX6_pact 27 = .ok (.iload_n 2, 1) := by decide +kernel
theorem dX6_pact_28 : decode cX6_pact 28 = .ok (.iconst (-1), 1) := by decide +kernel
theorem dX6_pact_29 : decode cX6_pact 29 = .ok (.if_icmp .eq 18, 3) := by decide +kernel
theorem dX6_pact_32 : decode cX6_pact 32 = .ok (.aload_n 0, 1) := by decide +kernel
theorem dX6_pact_33 : decode cX6_pact 33 = .ok (.iload_n 1, 1) := by decide +kernel
theorem dX6_pact_34 : decode cX6_pact 34 = .ok (.iload_n 2, 1) := by decide +kernel
theorem dX6_pact_35 : decode cX6_pact 35 = .ok (.invokevirtual 317, 3) := by decide +kernel
theorem dX6_pact_38 : decode cX6_pact 38 = .ok (.ifCond .eq 7, 3) := by decide +kernel
theorem dX6_pact_41 : decode cX6_pact 41 = .ok (.iconst 1, 1) := by decide +kernel
theorem dX6_pact_42 : decode cX6_pact 42 = .ok (.goto 4, 3) := by decide +kernel
theorem dX6_pact_45 : decode cX6_pact 45 = .ok (.iconst 0, 1) := by decide +kernel
theorem dX6_pact_46 : decode cX6_pact 46 = .ok (.ireturn, 1) := by decide +kernel
theorem dX6_pact_47 : decode cX6_pact 47 = .ok (.iconst 0, 1) := by decide +kernel
theorem dX6_pact_48 : decode cX6_pact 48 = .ok (.istore_n 3, 1) := by decide +kernel
theorem dX6_pact_49 : decode cX6_pact 49 = .ok (.iload_n 3, 1) := by decide +kernel
theorem dX6_pact_50 : decode cX6_pact 50 = .ok (.sipush 1000, 3) := by decide +kernel
theorem dX6_pact_53 : decode cX6_pact 53 = .ok (.if_icmp .ge 20, 3) := by decide +kernel
theorem dX6_pact_56 : decode cX6_pact 56 = .ok (.aload_n 0, 1) := by decide +kernel
theorem dX6_pact_57 : decode cX6_pact 57 = .ok (.iload_n 1, 1) := by decide +kernel
theorem dX6_pact_58 : decode cX6_pact 58 = .ok (.iload_n 3, 1) := by decide +kernel
theorem dX6_pact_59 : decode cX6_pact 59 = .ok (.invokevirtual 317, 3) := by decide +kernel
theorem dX6_pact_62 : decode cX6_pact 62 = .ok (.ifCond .eq 5, 3) := by decide +kernel
theorem dX6_pact_65 : decode cX6_pact 65 = .ok (.iload_n 3, 1) := by decide +kernel
theorem dX6_pact_66 : decode cX6_pact 66 = .ok (.ireturn, 1) := by decide +kernel
theorem dX6_pact_67 : decode cX6_pact 67 = .ok (.iinc 3 1, 3) := by decide +kernel
theorem dX6_pact_70 : decode cX6_pact 70 = .ok (.goto (-21), 3) := by decide +kernel
theorem dX6_pact_73 : decode cX6_pact 73 = .ok (.iconst (-1), 1) := by decide +kernel
theorem dX6_pact_74 : decode cX6_pact 74 = .ok (.ireturn, 1) := by decide +kernel
set_option maxRecDepth 20000 in
theorem ggX6_nextOf_X6_less : GoodIn wsX6_nextOf wsX6_less := goodIn_r _ [8] rfl (by decide +kernel)
set_option maxRecDepth 20000 in
theorem gX6_nextOf_X6_less : GoodIn wsX6_nextOf (wsV RX6 137 RX6 yX6_less wsX6_less) := goodIn_app (goodIn_of _ (by decide +kernel)) ggX6_nextOf_X6_less
theorem dX6_nextOf_0 : decode cX6_nextOf 0 = .ok (.aload_n 0, 1) := by decide +kernel
theorem dX6_nextOf_1 : decode cX6_nextOf 1 = .ok (.aload_n 0, 1) := by decide +kernel
theorem dX6_nextOf_2 : decode cX6_nextOf 2 = .ok (.getfield 53, 3) := by decide +kernel
theorem dX6_nextOf_5 : decode cX6_nextOf 5 = .ok (.bipush 9, 2) := by decide +kernel
theorem dX6_nextOf_7 : decode cX6_nextOf 7 = .ok (.iaload, 1) := by decide +kernel
theorem dX6_nextOf_8 : decode cX6_nextOf 8 = .ok (.iload_n 2, 1) := by decide +kernel
theorem dX6_nextOf_9 : decode cX6_nextOf 9 = .ok (.iload_n 1, 1) := by decide +kernel
theorem dX6_nextOf_10 : decode cX6_nextOf 10 = .ok (.isub, 1) := by decide +kernel
theorem dX6_nextOf_11 : decode cX6_nextOf 11 = .ok (.invokevirtual 137, 3) := by decide +kernel
theorem dX6_nextOf_14 : decode cX6_nextOf 14 = .ok (.istore 5, 2) := by decide +kernel
theorem dX6_nextOf_16 : decode cX6_nextOf 16 = .ok (.aload_n 0, 1) := by decide +kernel
theorem dX6_nextOf_17 : decode cX6_nextOf 17 = .ok (.aload_n 0, 1) := by decide +kernel
theorem dX6_nextOf_18 : decode cX6_nextOf 18 = .ok (.getfield 53, 3) := by decide +kernel
theorem dX6_nextOf_21 : decode cX6_nextOf 21 = .ok (.bipush 9, 2) := by decide +kernel
theorem dX6_nextOf_23 : decode cX6_nextOf 23 = .ok (.iaload, 1) := by decide +kernel
theorem dX6_nextOf_24 : decode cX6_nextOf 24 = .ok (.iload_n 1, 1) := by decide +kernel
theorem dX6_nextOf_25 : decode cX6_nextOf 25 = .ok (.invokevirtual 137, 3) := by decide +kernel
theorem dX6_nextOf_28 : decode cX6_nextOf 28 = .ok (.istore 6, 2) := by decide +kernel
theorem dX6_nextOf_30 : decode cX6_nextOf 30 = .ok (.iload_n 3, 1) := by decide +kernel
theorem dX6_nextOf_31 : decode cX6_nextOf 31 = .ok (.i2l, 1) := by decide +kernel
theorem dX6_nextOf_32 : decode cX6_nextOf 32 = .ok (.iload 4, 2) := by decide +kernel
theorem dX6_nextOf_34 : decode cX6_nextOf 34 = .ok (.i2l, 1) := by decide +kernel
theorem dX6_nextOf_35 : decode cX6_nextOf 35 = .ok (.lmul, 1) := by decide +kernel
theorem dX6_nextOf_36 : decode cX6_nextOf 36 = .ok (.aload_n 0, 1) := by decide +kernel
theorem dX6_nextOf_37 : decode cX6_nextOf 37 = .ok (.getfield 102, 3) := by decide +kernel
theorem dX6_nextOf_40 : decode cX6_nextOf 40 = .ok (.iload_n 3, 1) := by decide +kernel
theorem dX6_nextOf_41 : decode cX6_nextOf 41 = .ok (.ifCond .le 18, 3) := by decide +kernel
theorem dX6_nextOf_44 : decode cX6_nextOf 44 = .ok (.iload 4, 2) := by decide +kernel
theorem dX6_nextOf_46 : decode cX6_nextOf 46 = .ok (.ifCond .le 13, 3) := by decide +kernel
theorem dX6_nextOf_49 : decode cX6_nextOf 49 = .ok (.iload_n 1, 1) := by decide +kernel
theorem dX6_nextOf_50 : decode cX6_nextOf 50 = .ok (.iload 5, 2) := by decide +kernel
theorem dX6_nextOf_52 : decode cX6_nextOf 52 = .ok (.iadd, 1) := by decide +kernel
theorem dX6_nextOf_53 : decode cX6_nextOf 53 = .ok (.iload 6, 2) := by decide +kernel
theorem dX6_nextOf_55 : decode cX6_nextOf 55 = .ok (.isub, 1) := by decide +kernel
theorem dX6_nextOf_56 : decode cX6_nextOf 56 = .ok (.goto 4, 3) := by decide +kernel
theorem dX6_nextOf_59 : decode cX6_nextOf 59 = .ok (.iload_n 1, 1) := by decide +kernel
theorem dX6_nextOf_60 : decode cX6_nextOf 60 = .ok (.laload, 1) := by decide +kernel
theorem dX6_nextOf_61 : decode cX6_nextOf 61 = .ok (.lmul, 1) := by decide +kernel
theorem dX6_nextOf_62 : decode cX6_nextOf 62 = .ok (.lstore 7, 2) := by decide +kernel
theorem dX6_nextOf_64 : decode cX6_nextOf 64 = .ok (.lload 7, 2) := by decide +kernel
theorem dX6_nextOf_66 : decode cX6_nextOf 66 = .ok (.iload_n 3, 1) := by decide +kernel
theorem dX6_nextOf_67 : decode cX6_nextOf 67 = .ok (.i2l, 1) := by decide +kernel
theorem dX6_nextOf_68 : decode cX6_nextOf 68 = .ok (.sipush 1000, 3) := by decide +kernel
theorem dX6_nextOf_71 : decode cX6_nextOf 71 = .ok (.iload 4, 2) := by decide +kernel
theorem dX6_nextOf_73 : decode cX6_nextOf 73 = .ok (.isub, 1) := by decide +kernel
theorem dX6_nextOf_74 : decode cX6_nextOf 74 = .ok (.i2l, 1) := by decide +kernel
theorem dX6_nextOf_75 : decode cX6_nextOf 75 = .ok (.lmul, 1) := by decide +kernel
theorem dX6_nextOf_76 : decode cX6_nextOf 76 = .ok (.aload_n 0, 1) := by decide +kernel
theorem dX6_nextOf_77 : decode cX6_nextOf 77 = .ok (.getfield 102, 3) := by decide +kernel
theorem dX6_nextOf_80 : decode cX6_nextOf 80 = .ok (.iload_n 3, 1) := by decide +kernel
theorem dX6_nextOf_81 : decode cX6_nextOf 81 = .ok (.ifCond .le 10, 3) := by decide +kernel
theorem dX6_nextOf_84 : decode cX6_nextOf 84 = .ok (.iload_n 1, 1) := by decide +kernel
theorem dX6_nextOf_85 : decode cX6_nextOf 85 = .ok (.iload 5, 2) := by decide +kernel
theorem dX6_nextOf_87 : decode cX6_nextOf 87 = .ok (.iadd, 1) := by decide +kernel
theorem dX6_nextOf_88 : decode cX6_nextOf 88 = .ok (.goto 4, 3) := by decide +kernel
theorem dX6_nextOf_91 : decode cX6_nextOf 91 = .ok (.iload_n 1, 1) := by decide +kernel
theorem dX6_nextOf_92 : decode cX6_nextOf 92 = .ok (.laload, 1) := by decide +kernel
theorem dX6_nextOf_93 : decode cX6_nextOf 93 = .ok (.lmul, 1) := by decide +kernel
theorem dX6_nextOf_94 : decode cX6_nextOf 94 = .ok (.ladd, 1) := by decide +kernel
theorem dX6_nextOf_95 : decode cX6_nextOf 95 = .ok (.lstore 7, 2) := by decide +kernel
theorem dX6_nextOf_97 : decode cX6_nextOf 97 = .ok (.lload 7, 2) := by decide +kernel
theorem dX6_nextOf_99 : decode cX6_nextOf 99 = .ok (.sipush 1000, 3) := by decide +kernel
theorem dX6_nextOf_102 : decode cX6_nextOf 102 = .ok (.iload_n 3, 1) := by decide +kernel
theorem dX6_nextOf_103 : decode cX6_nextOf 103 = .ok (.isub, 1) := by decide +kernel
theorem dX6_nextOf_104 : decode cX6_nextOf 104 = .ok (.i2l, 1) := by decide +kernel
theorem dX6_nextOf_105 : decode cX6_nextOf 105 = .ok (.iload 4, 2) := by decide +kernel
theorem dX6_nextOf_107 : decode cX6_nextOf 107 = .ok (.i2l, 1) := by decide +kernel
theorem dX6_nextOf_108 : decode cX6_nextOf 108 = .ok (.lmul, 1) := by decide +kernel
theorem dX6_nextOf_109 : decode cX6_nextOf 109 = .ok (.aload_n 0, 1) := by decide +kernel
theorem dX6_nextOf_110 : decode cX6_nextOf 110 = .ok (.getfield 102, 3) := by decide +kernel
theorem dX6_nextOf_113 : decode cX6_nextOf 113 = .ok (.iload 4, 2) := by decide +kernel
theorem dX6_nextOf_115 : decode cX6_nextOf 115 = .ok (.ifCond .le 10, 3) := by decide +kernel
theorem dX6_nextOf_118 : decode cX6_nextOf 118 = .ok (.iload_n 1, 1) := by decide +kernel
theorem dX6_nextOf_119 : decode cX6_nextOf 119 = .ok (.iload 6, 2) := by decide +kernel
theorem dX6_nextOf_121 : decode cX6_nextOf 121 = .ok (.isub, 1) := by decide +kernel
theorem dX6_nextOf_122 : decode cX6_nextOf 122 = .ok (.goto 4, 3) := by decide +kernel
theorem dX6_nextOf_125 : decode cX6_nextOf 125 = .ok (.iload_n 1, 1) := by decide +kernel
theorem dX6_nextOf_126 : decode cX6_nextOf 126 = .ok (.laload, 1) := by decide +kernel
theorem dX6_nextOf_127 : decode cX6_nextOf 127 = .ok (.lmul, 1) := by decide +kernel
theorem dX6_nextOf_128 : decode cX6_nextOf 128 = .ok (.ladd, 1) := by decide +kernel
theorem dX6_nextOf_129 : decode cX6_nextOf 129 = .ok (.lstore 7, 2) := by decide +kernel
theorem dX6_nextOf_131 : decode cX6_nextOf 131 = .ok (.lload 7, 2) := by decide +kernel
theorem dX6_nextOf_133 : decode cX6_nextOf 133 = .ok (.sipush 1000, 3) := by decide +kernel
theorem dX6_nextOf_136 : decode cX6_nextOf 136 = .ok (.iload_n 3, 1) := by decide +kernel
theorem dX6_nextOf_137 : decode cX6_nextOf 137 = .ok (.isub, 1) := by decide +kernel
theorem dX6_nextOf_138 : decode cX6_nextOf 138 = .ok (.i2l, 1) := by decide +kernel
theorem dX6_nextOf_139 : decode cX6_nextOf 139 = .ok (.sipush 1000, 3) := by decide +kernel
theorem dX6_nextOf_142 : decode cX6_nextOf 142 = .ok (.iload 4, 2) := by decide +kernel
theorem dX6_nextOf_144 : decode cX6_nextOf 144 = .ok (.isub, 1) := by decide +kernel
theorem dX6_nextOf_145 : decode cX6_nextOf 145 = .ok (.i2l, 1) := by decide +kernel
theorem dX6_nextOf_146 : decode cX6_nextOf 146 = .ok (.lmul, 1) := by decide +kernel
theorem dX6_nextOf_147 : decode cX6_nextOf 147 = .ok (.aload_n 0, 1) := by decide +kernel
theorem dX6_nextOf_148 : decode cX6_nextOf 148 = .ok (.getfield 102, 3) := by decide +kernel
theorem dX6_nextOf_151 : decode cX6_nextOf 151 = .ok (.iload_n 1, 1) := by decide +kernel
theorem dX6_nextOf_152 : decode cX6_nextOf 152 = .ok (.laload, 1) := by decide +kernel
theorem dX6_nextOf_153 : decode cX6_nextOf 153 = .ok (.lmul, 1) := by decide +kernel
theorem dX6_nextOf_154 : decode cX6_nextOf 154 = .ok (.ladd, 1) := by decide +kernel
theorem dX6_nextOf_155 : decode cX6_nextOf 155 = .ok (.lstore 7, 2) := by decide +kernel
theorem dX6_nextOf_157 : decode cX6_nextOf 157 = .ok (.lload 7, 2) := by decide +kernel
theorem dX6_nextOf_159 : decode cX6_nextOf 159 = .ok (.ldc2_w 321, 3) := by decide +kernel
theorem dX6_nextOf_162 : decode cX6_nextOf 162 = .ok (.ldiv, 1) := by decide +kernel
theorem dX6_nextOf_163 : decode cX6_nextOf 163 = .ok (.lstore 9, 2) := by decide +kernel
theorem dX6_nextOf_165 : decode cX6_nextOf 165 = .ok (.lload 7, 2) := by decide +kernel
theorem dX6_nextOf_167 : decode cX6_nextOf 167 = .ok (.ldc2_w 321, 3) := by decide +kernel
theorem dX6_nextOf_170 : decode cX6_nextOf 170 = .ok (.lrem, 1) := by decide +kernel
theorem dX6_nextOf_171 : decode cX6_nextOf 171 = .ok (.lconst 0, 1) := by decide +kernel
theorem dX6_nextOf_172 : decode cX6_nextOf 172 = .ok (.lcmp, 1) := by decide +kernel
theorem dX6_nextOf_173 : decode cX6_nextOf 173 = .ok (.ifCond .eq 17, 3) := by decide +kernel
theorem dX6_nextOf_176 : decode cX6_nextOf 176 = .ok (.lload 7, 2) := by decide +kernel
theorem dX6_nextOf_178 : decode cX6_nextOf 178 = .ok (.lconst 0, 1) := by decide +kernel
theorem dX6_nextOf_179 : decode cX6_nextOf 179 = .ok (.lcmp, 1) := by decide +kernel
theorem dX6_nextOf_180 : decode cX6_nextOf 180 = .ok (.ifCond .ge 10, 3) := by decide +kernel
theorem dX6_nextOf_183 : decode cX6_nextOf 183 = .ok (.lload 9, 2) := by decide +kernel
theorem dX6_nextOf_185 : decode cX6_nextOf 185 = .ok (.lconst 1, 1) := by decide +kernel
theorem dX6_nextOf_186 : decode cX6_nextOf 186 = .ok (.lsub, 1) := by decide +kernel
theorem dX6_nextOf_187 : decode cX6_nextOf 187 = .ok (.goto 5, 3) := by decide +kernel
theorem dX6_nextOf_190 : decode cX6_nextOf 190 = .ok (.lload 9, 2) := by decide +kernel
theorem dX6_nextOf_192 : decode cX6_nextOf 192 = .ok (.lreturn, 1) := by decide +kernel
theorem dX6_lowered_0 : decode cX6_lowered 0 = .ok (.lload_n 1, 1) := by decide +kernel
theorem dX6_lowered_1 : decode cX6_lowered 1 = .ok (.lload_n 3, 1) := by decide +kernel
theorem dX6_lowered_2 : decode cX6_lowered 2 = .ok (.ldiv, 1) := by decide +kernel
theorem dX6_lowered_3 : decode cX6_lowered 3 = .ok (.lstore 5, 2) := by decide +kernel
theorem dX6_lowered_5 : decode cX6_lowered 5 = .ok (.lload_n 1, 1) := by decide +kernel
theorem dX6_lowered_6 : decode cX6_lowered 6 = .ok (.lload_n 3, 1) := by decide +kernel
theorem dX6_lowered_7 : decode cX6_lowered 7 = .ok (.lrem, 1) := by decide +kernel
theorem dX6_lowered_8 : decode cX6_lowered 8 = .ok (.lconst 0, 1) := by decide +kernel
theorem dX6_lowered_9 : decode cX6_lowered 9 = .ok (.lcmp, 1) := by decide +kernel
theorem dX6_lowered_10 : decode cX6_lowered 10 = .ok (.ifCond .eq 16, 3) := by decide +kernel
theorem dX6_lowered_13 : decode cX6_lowered 13 = .ok (.lload_n 1, 1) := by decide +kernel
theorem dX6_lowered_14 : decode cX6_lowered 14 = .ok (.lconst 0, 1) := by decide +kernel
theorem dX6_lowered_15 : decode cX6_lowered 15 = .ok (.lcmp, 1) := by decide +kernel
theorem dX6_lowered_16 : decode cX6_lowered 16 = .ok (.ifCond .ge 10, 3) := by decide +kernel
theorem dX6_lowered_19 : decode cX6_lowered 19 = .ok (.lload 5, 2) := by decide +kernel
theorem dX6_lowered_21 : decode cX6_lowered 21 = .ok (.lconst 1, 1) := by decide +kernel
theorem dX6_lowered_22 : decode cX6_lowered 22 = .ok (.lsub, 1) := by decide +kernel
theorem dX6_lowered_23 : decode cX6_lowered 23 = .ok (.goto 5, 3) := by decide +kernel
theorem dX6_lowered_26 : decode cX6_lowered 26 = .ok (.lload 5, 2) := by decide +kernel
theorem dX6_lowered_28 : decode cX6_lowered 28 = .ok (.lreturn, 1) := by decide +kernel
set_option maxRecDepth 20000 in
theorem ggX6_findsTwo_X6_doingOf : GoodIn wsX6_findsTwo wsX6_doingOf := goodIn_r _ [11, 1, 12, 13, 14, 15, 16, 17, 18, 19, 20, 21, 22, 23, 10, 24, 25, 26, 27, 28, 29, 30, 31, 32, 33, 34, 35, 36, 37, 38, 39, 40, 41, 42, 43, 44, 45, 46, 47, 48, 49, 50, 51, 52, 53, 54, 55, 56, 83, 84, 85, 86, 87, 88, 89, 90, 91, 92, 93, 94, 95, 96, 97, 98, 99, 100, 101, 102, 103, 104, 105, 106, 107, 108, 109, 110, 111, 112, 113, 114, 115, 116, 117, 118, 119, 120, 121, 122, 123, 124, 125, 126, 127, 128, 129, 130, 131, 132, 133, 134, 135, 136, 137] rfl (by decide +kernel)
set_option maxRecDepth 20000 in
theorem gX6_findsTwo_X6_doingOf : GoodIn wsX6_findsTwo (wsV RX6 266 RX6 yX6_doingOf wsX6_doingOf) := goodIn_app (goodIn_of _ (by decide +kernel)) ggX6_findsTwo_X6_doingOf
set_option maxRecDepth 20000 in
theorem ggX6_findsTwo_X6_canMove : GoodIn wsX6_findsTwo wsX6_canMove := goodIn_r _ [60, 18, 13, 1, 26, 27, 28, 10, 29, 25, 83, 84, 85, 86, 87, 88, 89, 90, 91, 92, 93, 94, 95, 96, 97, 98, 99, 100, 101, 102, 103, 104, 105, 106, 107, 108, 109, 110, 111, 112, 113, 114, 115, 116, 117, 118, 119, 120, 121, 122, 123, 124, 125, 126, 127, 128, 129, 130, 131, 132, 133, 134, 135, 136, 137] rfl (by decide +kernel)
set_option maxRecDepth 20000 in
theorem gX6_findsTwo_X6_canMove : GoodIn wsX6_findsTwo (wsV RX6 277 RX6 yX6_canMove wsX6_canMove) := goodIn_app (goodIn_of _ (by decide +kernel)) ggX6_findsTwo_X6_canMove
set_option maxRecDepth 20000 in
theorem ggX6_findsTwo_X6_chanceOf : GoodIn wsX6_findsTwo wsX6_chanceOf := goodIn_r _ [64, 13, 16, 65, 83, 84, 85, 86, 87, 88, 89, 90, 91, 92, 93, 94, 95, 96, 97, 98, 99, 100, 101, 102, 103, 104, 105, 106, 107, 108, 109, 110, 111, 112, 113, 114, 115, 116, 117, 118, 119, 120, 121, 122, 123, 124, 125, 126, 127, 128, 129, 130, 131, 132, 133, 134, 135, 136, 137] rfl (by decide +kernel)
set_option maxRecDepth 20000 in
theorem gX6_findsTwo_X6_chanceOf : GoodIn wsX6_findsTwo (wsV RX6 280 RX6 yX6_chanceOf wsX6_chanceOf) := goodIn_app (goodIn_of _ (by decide +kernel)) ggX6_findsTwo_X6_chanceOf
set_option maxRecDepth 20000 in
theorem ggX6_findsTwo_X6_valueOf : GoodIn wsX6_findsTwo wsX6_valueOf := goodIn_r _ [69, 16, 13, 2, 1, 21, 22, 23, 10, 24, 25, 26, 27, 28, 29, 57, 58, 59, 60, 18, 61, 62, 63, 64, 65, 34, 35, 36, 37, 30, 31, 32, 33, 70, 71, 72, 73, 83, 84, 85, 86, 87, 88, 89, 90, 91, 92, 93, 94, 95, 96, 97, 98, 99, 100, 101, 102, 103, 104, 105, 106, 107, 108, 109, 110, 111, 112, 113, 114, 115, 116, 117, 118, 119, 120, 121, 122, 123, 124, 125, 126, 127, 128, 129, 130, 131, 132, 133, 134, 135, 136, 137] rfl (by decide +kernel)
set_option maxRecDepth 20000 in
theorem gX6_findsTwo_X6_valueOf : GoodIn wsX6_findsTwo (wsV RX6 292 RX6 yX6_valueOf wsX6_valueOf) := goodIn_app (goodIn_of _ (by decide +kernel)) ggX6_findsTwo_X6_valueOf
set_option maxRecDepth 20000 in
theorem ggX6_findsTwo_X6_nextOf : GoodIn wsX6_findsTwo wsX6_nextOf := goodIn_r _ [77, 13, 6, 78, 34, 35, 36, 10, 37, 83, 84, 85, 86, 87, 88, 89, 90, 91, 92, 93, 94, 95, 96, 97, 98, 99, 100, 101, 102, 103, 104, 105, 106, 107, 108, 109, 110, 111, 112, 113, 114, 115, 116, 117, 118, 119, 120, 121, 122, 123, 124, 125, 126, 127, 128, 129, 130, 131, 132, 133, 134, 135, 136, 137] rfl (by decide +kernel)
set_option maxRecDepth 20000 in
theorem gX6_findsTwo_X6_nextOf : GoodIn wsX6_findsTwo (wsV RX6 325 RX6 yX6_nextOf wsX6_nextOf) := goodIn_app (goodIn_of _ (by decide +kernel)) ggX6_findsTwo_X6_nextOf
set_option maxRecDepth 20000 in
theorem ggX6_findsTwo_X6_lowered : GoodIn wsX6_findsTwo wsX6_lowered := goodIn_r _ [82] rfl (by decide +kernel)
set_option maxRecDepth 20000 in
theorem gX6_findsTwo_X6_lowered : GoodIn wsX6_findsTwo (wsV RX6 329 RX6 yX6_lowered wsX6_lowered) := goodIn_app (goodIn_of _ (by decide +kernel)) ggX6_findsTwo_X6_lowered
theorem dX6_findsTwo_0 : decode cX6_findsTwo 0 = .ok (.iconst 0, 1) := by decide +kernel
theorem dX6_findsTwo_1 : decode cX6_findsTwo 1 = .ok (.istore_n 3, 1) := by decide +kernel
theorem dX6_findsTwo_2 : decode cX6_findsTwo 2 = .ok (.iload_n 3, 1) := by decide +kernel
theorem dX6_findsTwo_3 : decode cX6_findsTwo 3 = .ok (.iload_n 2, 1) := by decide +kernel
theorem dX6_findsTwo_4 : decode cX6_findsTwo 4 = .ok (.if_icmp .gt 198, 3) := by decide +kernel
theorem dX6_findsTwo_7 : decode cX6_findsTwo 7 = .ok (.aload_n 0, 1) := by decide +kernel
theorem dX6_findsTwo_8 : decode cX6_findsTwo 8 = .ok (.getfield 13, 3) := by decide +kernel
theorem dX6_findsTwo_11 : decode cX6_findsTwo 11 = .ok (.iconst 0, 1) := by decide +kernel
theorem dX6_findsTwo_12 : decode cX6_findsTwo 12 = .ok (.iload_n 3, 1) := by decide +kernel
theorem dX6_findsTwo_13 : decode cX6_findsTwo 13 = .ok (.iastore, 1) := by decide +kernel
theorem dX6_findsTwo_14 : decode cX6_findsTwo 14 = .ok (.aload_n 0, 1) := by decide +kernel
theorem dX6_findsTwo_15 : decode cX6_findsTwo 15 = .ok (.getfield 13, 3) := by decide +kernel
theorem dX6_findsTwo_18 : decode cX6_findsTwo 18 = .ok (.iconst 1, 1) := by decide +kernel
theorem dX6_findsTwo_19 : decode cX6_findsTwo 19 = .ok (.iload_n 2, 1) := by decide +kernel
theorem dX6_findsTwo_20 : decode cX6_findsTwo 20 = .ok (.iload_n 3, 1) := by decide +kernel
theorem dX6_findsTwo_21 : decode cX6_findsTwo 21 = .ok (.isub, 1) := by decide +kernel
theorem dX6_findsTwo_22 : decode cX6_findsTwo 22 = .ok (.iastore, 1) := by decide +kernel
theorem dX6_findsTwo_23 : decode cX6_findsTwo 23 = .ok (.aload_n 0, 1) := by decide +kernel
theorem dX6_findsTwo_24 : decode cX6_findsTwo 24 = .ok (.iconst 1, 1) := by decide +kernel
theorem dX6_findsTwo_25 : decode cX6_findsTwo 25 = .ok (.invokevirtual 266, 3) := by decide +kernel
theorem dX6_findsTwo_28 : decode cX6_findsTwo 28 = .ok (.istore 4, 2) := by decide +kernel
theorem dX6_findsTwo_30 : decode cX6_findsTwo 30 = .ok (.iconst 0, 1) := by decide +kernel
theorem dX6_findsTwo_31 : decode cX6_findsTwo 31 = .ok (.istore 5, 2) := by decide +kernel
theorem dX6_findsTwo_33 : decode cX6_findsTwo 33 = .ok (.iload 5, 2) := by decide +kernel
theorem dX6_findsTwo_35 : decode cX6_findsTwo 35 = .ok (.iconst 4, 1) := by decide +kernel
theorem dX6_findsTwo_36 : decode cX6_findsTwo 36 = .ok (.if_icmp .ge 160, 3) := by decide +kernel
theorem dX6_findsTwo_39 : decode cX6_findsTwo 39 = .ok (.iload 5, 2) := by decide +kernel
theorem dX6_findsTwo_41 : decode cX6_findsTwo 41 = .ok (.iconst 2, 1) := by decide +kernel
theorem dX6_findsTwo_42 : decode cX6_findsTwo 42 = .ok (.if_icmp .ne 6, 3) := by decide +kernel
theorem dX6_findsTwo_45 : decode cX6_findsTwo 45 = .ok (.goto 145, 3) := by decide +kernel
theorem dX6_findsTwo_48 : decode cX6_findsTwo 48 = .ok (.aload_n 0, 1) := by decide +kernel
theorem dX6_findsTwo_49 : decode cX6_findsTwo 49 = .ok (.getfield 99, 3) := by decide +kernel
theorem dX6_findsTwo_52 : decode cX6_findsTwo 52 = .ok (.iconst 0, 1) := by decide +kernel
theorem dX6_findsTwo_53 : decode cX6_findsTwo 53 = .ok (.iload 5, 2) := by decide +kernel
theorem dX6_findsTwo_55 : decode cX6_findsTwo 55 = .ok (.iastore, 1) := by decide +kernel
theorem dX6_findsTwo_56 : decode cX6_findsTwo 56 = .ok (.aload_n 0, 1) := by decide +kernel
theorem dX6_findsTwo_57 : decode cX6_findsTwo 57 = .ok (.getfield 99, 3) := by decide +kernel
theorem dX6_findsTwo_60 : decode cX6_findsTwo 60 = .ok (.iconst 1, 1) := by decide +kernel
theorem dX6_findsTwo_61 : decode cX6_findsTwo 61 = .ok (.iload 4, 2) := by decide +kernel
theorem dX6_findsTwo_63 : decode cX6_findsTwo 63 = .ok (.iastore, 1) := by decide +kernel
theorem dX6_findsTwo_64 : decode cX6_findsTwo 64 = .ok (.aload_n 0, 1) := by decide +kernel
theorem dX6_findsTwo_65 : decode cX6_findsTwo 65 = .ok (.iconst 0, 1) := by decide +kernel
theorem dX6_findsTwo_66 : decode cX6_findsTwo 66 = .ok (.invokevirtual 277, 3) := by decide +kernel
theorem dX6_findsTwo_69 : decode cX6_findsTwo 69 = .ok (.istore 6, 2) := by decide +kernel
theorem dX6_findsTwo_71 : decode cX6_findsTwo 71 = .ok (.iload 5, 2) := by decide +kernel
theorem dX6_findsTwo_73 : decode cX6_findsTwo 73 = .ok (.iconst 3, 1) := by decide +kernel
theorem dX6_findsTwo_74 : decode cX6_findsTwo 74 = .ok (.if_icmp .ne 19, 3) := by decide +kernel
theorem dX6_findsTwo_77 : decode cX6_findsTwo 77 = .ok (.iload 6, 2) := by decide +kernel
theorem dX6_findsTwo_79 : decode cX6_findsTwo 79 = .ok (.ifCond .eq 14, 3) := by decide +kernel
theorem dX6_findsTwo_82 : decode cX6_findsTwo 82 = .ok (.aload_n 0, 1) := by decide +kernel
theorem dX6_findsTwo_83 : decode cX6_findsTwo 83 = .ok (.iconst 0, 1) := by decide +kernel
theorem dX6_findsTwo_84 : decode cX6_findsTwo 84 = .ok (.iconst 1, 1) := by decide +kernel
theorem dX6_findsTwo_85 : decode cX6_findsTwo 85 = .ok (.iload 4, 2) := by decide +kernel
theorem dX6_findsTwo_87 : decode cX6_findsTwo 87 = .ok (.invokevirtual 280, 3) := by decide +kernel
theorem dX6_findsTwo_90 : decode cX6_findsTwo 90 = .ok (.goto 4, 3) := by decide +kernel
theorem dX6_findsTwo_93 : decode cX6_findsTwo 93 = .ok (.iconst 0, 1) := by decide +kernel
theorem dX6_findsTwo_94 : decode cX6_findsTwo 94 = .ok (.istore 7, 2) := by decide +kernel
theorem dX6_findsTwo_96 : decode cX6_findsTwo 96 = .ok (.iload 4, 2) := by decide +kernel
theorem dX6_findsTwo_98 : decode cX6_findsTwo 98 = .ok (.iconst 2, 1) := by decide +kernel
theorem dX6_findsTwo_99 : decode cX6_findsTwo 99 = .ok (.if_icmp .ne 19, 3) := by decide +kernel
theorem dX6_findsTwo_102 : decode cX6_findsTwo 102 = .ok (.iload 6, 2) := by decide +kernel
theorem dX6_findsTwo_104 : decode cX6_findsTwo 104 = .ok (.ifCond .eq 14, 3) := by decide +kernel
theorem dX6_findsTwo_107 : decode cX6_findsTwo 107 = .ok (.aload_n 0, 1) := by decide +kernel
theorem dX6_findsTwo_108 : decode cX6_findsTwo 108 = .ok (.iconst 0, 1) := by decide +kernel
theorem dX6_findsTwo_109 : decode cX6_findsTwo 109 = .ok (.iconst 0, 1) := by decide +kernel
theorem dX6_findsTwo_110 : decode cX6_findsTwo 110 = .ok (.iload 5, 2) := by decide +kernel
theorem dX6_findsTwo_112 : decode cX6_findsTwo 112 = .ok (.invokevirtual 280, 3) := by decide +kernel
theorem dX6_findsTwo_115 : decode cX6_findsTwo 115 = .ok (.goto 4, 3) := by decide +kernel
theorem dX6_findsTwo_118 : decode cX6_findsTwo 118 = .ok (.iconst 0, 1) := by decide +kernel
theorem dX6_findsTwo_119 : decode cX6_findsTwo 119 = .ok (.istore 8, 2) := by decide +kernel
theorem dX6_findsTwo_121 : decode cX6_findsTwo 121 = .ok (.ldc2_w 323, 3) := by decide +kernel
theorem dX6_findsTwo_124 : decode cX6_findsTwo 124 = .ok (.aload_n 0, 1) := by decide +kernel
theorem dX6_findsTwo_125 : decode cX6_findsTwo 125 = .ok (.iconst 0, 1) := by decide +kernel
theorem dX6_findsTwo_126 : decode cX6_findsTwo 126 = .ok (.invokevirtual 292, 3) := by decide +kernel
theorem dX6_findsTwo_129 : decode cX6_findsTwo 129 = .ok (.i2l, 1) := by decide +kernel
theorem dX6_findsTwo_130 : decode cX6_findsTwo 130 = .ok (.lmul, 1) := by decide +kernel
theorem dX6_findsTwo_131 : decode cX6_findsTwo 131 = .ok (.aload_n 0, 1) := by decide +kernel
theorem dX6_findsTwo_132 : decode cX6_findsTwo 132 = .ok (.iload_n 1, 1) := by decide +kernel
theorem dX6_findsTwo_133 : decode cX6_findsTwo 133 = .ok (.i2l, 1) := by decide +kernel
theorem dX6_findsTwo_134 : decode cX6_findsTwo 134 = .ok (.aload_n 0, 1) := by decide +kernel
theorem dX6_findsTwo_135 : decode cX6_findsTwo 135 = .ok (.iload_n 3, 1) := by decide +kernel
theorem dX6_findsTwo_136 : decode cX6_findsTwo 136 = .ok (.iload_n 2, 1) := by decide +kernel
theorem dX6_findsTwo_137 : decode cX6_findsTwo 137 = .ok (.iload 7, 2) := by decide +kernel
theorem dX6_findsTwo_139 : decode cX6_findsTwo 139 = .ok (.iload 8, 2) := by decide +kernel
theorem dX6_findsTwo_141 : decode cX6_findsTwo 141 = .ok (.invokevirtual 325, 3) := by decide +kernel
theorem dX6_findsTwo_144 : decode cX6_findsTwo 144 = .ok (.lmul, 1) := by decide +kernel
theorem dX6_findsTwo_145 : decode cX6_findsTwo 145 = .ok (.ldc2_w 323, 3) := by decide +kernel
theorem dX6_findsTwo_148 : decode cX6_findsTwo 148 = .ok (.invokevirtual 329, 3) := by decide +kernel
theorem dX6_findsTwo_151 : decode cX6_findsTwo 151 = .ok (.ladd, 1) := by decide +kernel
theorem dX6_findsTwo_152 : decode cX6_findsTwo 152 = .ok (.lstore 9, 2) := by decide +kernel
theorem dX6_findsTwo_154 : decode cX6_findsTwo 154 = .ok (.iload 5, 2) := by decide +kernel
theorem dX6_findsTwo_156 : decode cX6_findsTwo 156 = .ok (.ifCond .le 18, 3) := by decide +kernel
theorem dX6_findsTwo_159 : decode cX6_findsTwo 159 = .ok (.lload 9, 2) := by decide +kernel
theorem dX6_findsTwo_161 : decode cX6_findsTwo 161 = .ok (.aload_n 0, 1) := by decide +kernel
theorem dX6_findsTwo_162 : decode cX6_findsTwo 162 = .ok (.getfield 106, 3) := by decide +kernel
theorem dX6_findsTwo_165 : decode cX6_findsTwo 165 = .ok (.iload_n 3, 1) := by decide +kernel
theorem dX6_findsTwo_166 : decode cX6_findsTwo 166 = .ok (.laload, 1) := by decide +kernel
theorem dX6_findsTwo_167 : decode cX6_findsTwo 167 = .ok (.lcmp, 1) := by decide +kernel
theorem dX6_findsTwo_168 : decode cX6_findsTwo 168 = .ok (.ifCond .gt 6, 3) := by decide +kernel
theorem dX6_findsTwo_171 : decode cX6_findsTwo 171 = .ok (.goto 19, 3) := by decide +kernel
theorem dX6_findsTwo_174 : decode cX6_findsTwo 174 = .ok (.aload_n 0, 1) := by decide +kernel
theorem dX6_findsTwo_175 : decode cX6_findsTwo 175 = .ok (.getfield 106, 3) := by decide +kernel
theorem dX6_findsTwo_178 : decode cX6_findsTwo 178 = .ok (.iload_n 3, 1) := by decide +kernel
theorem dX6_findsTwo_179 : decode cX6_findsTwo 179 = .ok (.lload 9, 2) := by decide +kernel
theorem dX6_findsTwo_181 : decode cX6_findsTwo 181 = .ok (.lastore, 1) := by decide +kernel
theorem dX6_findsTwo_182 : decode cX6_findsTwo 182 = .ok (.aload_n 0, 1) := by decide +kernel
theorem dX6_findsTwo_183 : decode cX6_findsTwo 183 = .ok (.getfield 109, 3) := by decide +kernel
theorem dX6_findsTwo_186 : decode cX6_findsTwo 186 = .ok (.iload_n 3, 1) := by decide +kernel
theorem dX6_findsTwo_187 : decode cX6_findsTwo 187 = .ok (.iload 5, 2) := by decide +kernel
theorem dX6_findsTwo_189 : decode cX6_findsTwo 189 = .ok (.iastore, 1) := by decide +kernel
theorem dX6_findsTwo_190 : decode cX6_findsTwo 190 = .ok (.iinc 5 1, 3) := by decide +kernel
theorem dX6_findsTwo_193 : decode cX6_findsTwo 193 = .ok (.goto (-160), 3) := by decide +kernel
theorem dX6_findsTwo_196 : decode cX6_findsTwo 196 = .ok (.iinc 3 1, 3) := by decide +kernel
theorem dX6_findsTwo_199 : decode cX6_findsTwo 199 = .ok (.goto (-197), 3) := by decide +kernel
theorem dX6_findsTwo_202 : decode cX6_findsTwo 202 = .ok (.iconst 0, 1) := by decide +kernel
theorem dX6_findsTwo_203 : decode cX6_findsTwo 203 = .ok (.istore_n 3, 1) := by decide +kernel
theorem dX6_findsTwo_204 : decode cX6_findsTwo 204 = .ok (.iload_n 3, 1) := by decide +kernel
theorem dX6_findsTwo_205 : decode cX6_findsTwo 205 = .ok (.iload_n 2, 1) := by decide +kernel
theorem dX6_findsTwo_206 : decode cX6_findsTwo 206 = .ok (.if_icmp .gt 21, 3) := by decide +kernel
theorem dX6_findsTwo_209 : decode cX6_findsTwo 209 = .ok (.aload_n 0, 1) := by decide +kernel
theorem dX6_findsTwo_210 : decode cX6_findsTwo 210 = .ok (.getfield 102, 3) := by decide +kernel
theorem dX6_findsTwo_213 : decode cX6_findsTwo 213 = .ok (.iload_n 3, 1) := by decide +kernel
theorem dX6_findsTwo_214 : decode cX6_findsTwo 214 = .ok (.aload_n 0, 1) := by decide +kernel
theorem dX6_findsTwo_215 : decode cX6_findsTwo 215 = .ok (.getfield 106, 3) := by decide +kernel
theorem dX6_findsTwo_218 : decode cX6_findsTwo 218 = .ok (.iload_n 3, 1) := by decide +kernel
theorem dX6_findsTwo_219 : decode cX6_findsTwo 219 = .ok (.laload, 1) := by decide +kernel
theorem dX6_findsTwo_220 : decode cX6_findsTwo 220 = .ok (.lastore, 1) := by decide +kernel
theorem dX6_findsTwo_221 : decode cX6_findsTwo 221 = .ok (.iinc 3 1, 3) := by decide +kernel
theorem dX6_findsTwo_224 : decode cX6_findsTwo 224 = .ok (.goto (-20), 3) := by decide +kernel
theorem dX6_findsTwo_227 : decode cX6_findsTwo 227 = .ok (.return_, 1) := by decide +kernel
set_option maxRecDepth 20000 in
theorem ggX6_two_X6_isIn : GoodIn wsX6_two wsX6_isIn := goodIn_r _ [12] rfl (by decide +kernel)
set_option maxRecDepth 20000 in
theorem gX6_two_X6_isIn : GoodIn wsX6_two (wsV RX6 129 RX6 yX6_isIn wsX6_isIn) := goodIn_app (goodIn_of _ (by decide +kernel)) ggX6_two_X6_isIn
set_option maxRecDepth 20000 in
theorem ggX6_two_X6_findsTwo : GoodIn wsX6_two wsX6_findsTwo := goodIn_r _ [16, 2, 17, 18, 19, 7, 6, 20, 21, 22, 11, 23, 24, 25, 26, 27, 28, 29, 5, 30, 31, 32, 33, 34, 35, 3, 36, 37, 38, 39, 40, 41, 42, 43, 44, 45, 46, 47, 48, 49, 50, 51, 52, 53, 54, 55, 56, 57, 58, 59, 60, 61, 62, 63, 64, 65, 66, 67, 68, 69, 70, 71, 72, 73, 74, 75, 76, 77, 78, 79, 80, 81, 82, 83, 84, 85, 86, 87, 88, 89, 90, 91, 92, 93, 94, 95, 96, 97, 98, 99, 100, 101, 102, 103, 104, 105, 106, 107, 108, 109, 110, 111, 112, 113, 114, 115, 116, 117, 118, 119, 120, 121, 122, 123, 124, 125, 126, 127, 128, 129, 130, 131, 132, 133, 134, 135, 136, 137, 138, 139, 140, 141, 142, 143, 144, 145, 146, 147] rfl (by decide +kernel)
set_option maxRecDepth 20000 in
theorem gX6_two_X6_findsTwo : GoodIn wsX6_two (wsV RX6 335 RX6 yX6_findsTwo wsX6_findsTwo) := goodIn_app (goodIn_of _ (by decide +kernel)) ggX6_two_X6_findsTwo
theorem dX6_two_0 : decode cX6_two 0 = .ok (.aload_n 0, 1) := by decide +kernel
theorem dX6_two_1 : decode cX6_two 1 = .ok (.iconst 0, 1) := by decide +kernel
theorem dX6_two_2 : decode cX6_two 2 = .ok (.putfield 121, 3) := by decide +kernel
theorem dX6_two_5 : decode cX6_two 5 = .ok (.aload_n 0, 1) := by decide +kernel
theorem dX6_two_6 : decode cX6_two 6 = .ok (.getfield 13, 3) := by decide +kernel
theorem dX6_two_9 : decode cX6_two 9 = .ok (.iconst 0, 1) := by decide +kernel
theorem dX6_two_10 : decode cX6_two 10 = .ok (.iaload, 1) := by decide +kernel
theorem dX6_two_11 : decode cX6_two 11 = .ok (.aload_n 0, 1) := by decide +kernel
theorem dX6_two_12 : decode cX6_two 12 = .ok (.getfield 13, 3) := by decide +kernel
theorem dX6_two_15 : decode cX6_two 15 = .ok (.iconst 1, 1) := by decide +kernel
theorem dX6_two_16 : decode cX6_two 16 = .ok (.iaload, 1) := by decide +kernel
theorem dX6_two_17 : decode cX6_two 17 = .ok (.iadd, 1) := by decide +kernel
theorem dX6_two_18 : decode cX6_two 18 = .ok (.istore 5, 2) := by decide +kernel
theorem dX6_two_20 : decode cX6_two 20 = .ok (.aload_n 0, 1) := by decide +kernel
theorem dX6_two_21 : decode cX6_two 21 = .ok (.getfield 7, 3) := by decide +kernel
theorem dX6_two_24 : decode cX6_two 24 = .ok (.iconst 2, 1) := by decide +kernel
theorem dX6_two_25 : decode cX6_two 25 = .ok (.if_icmp .ne 55, 3) := by decide +kernel
theorem dX6_two_28 : decode cX6_two 28 = .ok (.iload 5, 2) := by decide +kernel
theorem dX6_two_30 : decode cX6_two 30 = .ok (.bipush 60, 2) := by decide +kernel
theorem dX6_two_32 : decode cX6_two 32 = .ok (.if_icmp .gt 48, 3) := by decide +kernel
theorem dX6_two_35 : decode cX6_two 35 = .ok (.aload_n 0, 1) := by decide +kernel
theorem dX6_two_36 : decode cX6_two 36 = .ok (.iload_n 1, 1) := by decide +kernel
theorem dX6_two_37 : decode cX6_two 37 = .ok (.iconst 1, 1) := by decide +kernel
theorem dX6_two_38 : decode cX6_two 38 = .ok (.bipush 40, 2) := by decide +kernel
theorem dX6_two_40 : decode cX6_two 40 = .ok (.invokevirtual 129, 3) := by decide +kernel
theorem dX6_two_43 : decode cX6_two 43 = .ok (.ifCond .eq 37, 3) := by decide +kernel
theorem dX6_two_46 : decode cX6_two 46 = .ok (.aload_n 0, 1) := by decide +kernel
theorem dX6_two_47 : decode cX6_two 47 = .ok (.iload_n 2, 1) := by decide +kernel
theorem dX6_two_48 : decode cX6_two 48 = .ok (.iconst 0, 1) := by decide +kernel
theorem dX6_two_49 : decode cX6_two 49 = .ok (.sipush 999, 3) := by decide +kernel
theorem dX6_two_52 : decode cX6_two 52 = .ok (.invokevirtual 129, 3) := by decide +kernel
theorem dX6_two_55 : decode cX6_two 55 = .ok (.ifCond .eq 25, 3) := by decide +kernel
theorem dX6_two_58 : decode cX6_two 58 = .ok (.aload_n 0, 1) := by decide +kernel
theorem dX6_two_59 : decode cX6_two 59 = .ok (.iload_n 3, 1) := by decide +kernel
theorem dX6_two_60 : decode cX6_two 60 = .ok (.iconst 0, 1) := by decide +kernel
theorem dX6_two_61 : decode cX6_two 61 = .ok (.iload 5, 2) := by decide +kernel
theorem dX6_two_63 : decode cX6_two 63 = .ok (.invokevirtual 129, 3) := by decide +kernel
theorem dX6_two_66 : decode cX6_two 66 = .ok (.ifCond .eq 14, 3) := by decide +kernel
theorem dX6_two_69 : decode cX6_two 69 = .ok (.aload_n 0, 1) := by decide +kernel
theorem dX6_two_70 : decode cX6_two 70 = .ok (.iload 4, 2) := by decide +kernel
theorem dX6_two_72 : decode cX6_two 72 = .ok (.iconst 0, 1) := by decide +kernel
theorem dX6_two_73 : decode cX6_two 73 = .ok (.iconst 1, 1) := by decide +kernel
theorem dX6_two_74 : decode cX6_two 74 = .ok (.invokevirtual 129, 3) := by decide +kernel
theorem dX6_two_77 : decode cX6_two 77 = .ok (.ifCond .ne 7, 3) := by decide +kernel
theorem dX6_two_80 : decode cX6_two 80 = .ok (.ldc2_w 333, 3) := by decide +kernel
theorem dX6_two_83 : decode cX6_two 83 = .ok (.lreturn, 1) := by decide +kernel
theorem dX6_two_84 : decode cX6_two 84 = .ok (.aload_n 0, 1) := by decide +kernel
theorem dX6_two_85 : decode cX6_two 85 = .ok (.getfield 13, 3) := by decide +kernel
theorem dX6_two_88 : decode cX6_two 88 = .ok (.iconst 0, 1) := by decide +kernel
theorem dX6_two_89 : decode cX6_two 89 = .ok (.iaload, 1) := by decide +kernel
theorem dX6_two_90 : decode cX6_two 90 = .ok (.istore 6, 2) := by decide +kernel
theorem dX6_two_92 : decode cX6_two 92 = .ok (.aload_n 0, 1) := by decide +kernel
theorem dX6_two_93 : decode cX6_two 93 = .ok (.getfield 38, 3) := by decide +kernel
theorem dX6_two_96 : decode cX6_two 96 = .ok (.iconst 1, 1) := by decide +kernel
theorem dX6_two_97 : decode cX6_two 97 = .ok (.iaload, 1) := by decide +kernel
theorem dX6_two_98 : decode cX6_two 98 = .ok (.istore 7, 2) := by decide +kernel
theorem dX6_two_100 : decode cX6_two 100 = .ok (.aload_n 0, 1) := by decide +kernel
theorem dX6_two_101 : decode cX6_two 101 = .ok (.getfield 38, 3) := by decide +kernel
theorem dX6_two_104 : decode cX6_two 104 = .ok (.iconst 1, 1) := by decide +kernel
theorem dX6_two_105 : decode cX6_two 105 = .ok (.iconst 1, 1) := by decide +kernel
theorem dX6_two_106 : decode cX6_two 106 = .ok (.iastore, 1) := by decide +kernel
theorem dX6_two_107 : decode cX6_two 107 = .ok (.iconst 0, 1) := by decide +kernel
theorem dX6_two_108 : decode cX6_two 108 = .ok (.istore 8, 2) := by decide +kernel
theorem dX6_two_110 : decode cX6_two 110 = .ok (.iload 8, 2) := by decide +kernel
theorem dX6_two_112 : decode cX6_two 112 = .ok (.iload 5, 2) := by decide +kernel
theorem dX6_two_114 : decode cX6_two 114 = .ok (.if_icmp .gt 17, 3) := by decide +kernel
theorem dX6_two_117 : decode cX6_two 117 = .ok (.aload_n 0, 1) := by decide +kernel
theorem dX6_two_118 : decode cX6_two 118 = .ok (.getfield 102, 3) := by decide +kernel
theorem dX6_two_121 : decode cX6_two 121 = .ok (.iload 8, 2) := by decide +kernel
theorem dX6_two_123 : decode cX6_two 123 = .ok (.lconst 0, 1) := by decide +kernel
theorem dX6_two_124 : decode cX6_two 124 = .ok (.lastore, 1) := by decide +kernel
theorem dX6_two_125 : decode cX6_two 125 = .ok (.iinc 8 1, 3) := by decide +kernel
theorem dX6_two_128 : decode cX6_two 128 = .ok (.goto (-18), 3) := by decide +kernel
theorem dX6_two_131 : decode cX6_two 131 = .ok (.iconst 0, 1) := by decide +kernel
theorem dX6_two_132 : decode cX6_two 132 = .ok (.istore 8, 2) := by decide +kernel
theorem dX6_two_134 : decode cX6_two 134 = .ok (.iload 8, 2) := by decide +kernel
theorem dX6_two_136 : decode cX6_two 136 = .ok (.iload_n 1, 1) := by decide +kernel
theorem dX6_two_137 : decode cX6_two 137 = .ok (.if_icmp .ge 16, 3) := by decide +kernel
theorem dX6_two_140 : decode cX6_two 140 = .ok (.aload_n 0, 1) := by decide +kernel
theorem dX6_two_141 : decode cX6_two 141 = .ok (.iload_n 2, 1) := by decide +kernel
theorem dX6_two_142 : decode cX6_two 142 = .ok (.iload 5, 2) := by decide +kernel
theorem dX6_two_144 : decode cX6_two 144 = .ok (.invokevirtual 335, 3) := by decide +kernel
theorem dX6_two_147 : decode cX6_two 147 = .ok (.iinc 8 1, 3) := by decide +kernel
theorem dX6_two_150 : decode cX6_two 150 = .ok (.goto (-16), 3) := by decide +kernel
theorem dX6_two_153 : decode cX6_two 153 = .ok (.aload_n 0, 1) := by decide +kernel
theorem dX6_two_154 : decode cX6_two 154 = .ok (.getfield 38, 3) := by decide +kernel
theorem dX6_two_157 : decode cX6_two 157 = .ok (.iconst 1, 1) := by decide +kernel
theorem dX6_two_158 : decode cX6_two 158 = .ok (.iload 7, 2) := by decide +kernel
theorem dX6_two_160 : decode cX6_two 160 = .ok (.iastore, 1) := by decide +kernel
theorem dX6_two_161 : decode cX6_two 161 = .ok (.aload_n 0, 1) := by decide +kernel
theorem dX6_two_162 : decode cX6_two 162 = .ok (.getfield 13, 3) := by decide +kernel
theorem dX6_two_165 : decode cX6_two 165 = .ok (.iconst 0, 1) := by decide +kernel
theorem dX6_two_166 : decode cX6_two 166 = .ok (.iload 6, 2) := by decide +kernel
theorem dX6_two_168 : decode cX6_two 168 = .ok (.iastore, 1) := by decide +kernel
theorem dX6_two_169 : decode cX6_two 169 = .ok (.aload_n 0, 1) := by decide +kernel
theorem dX6_two_170 : decode cX6_two 170 = .ok (.getfield 13, 3) := by decide +kernel
theorem dX6_two_173 : decode cX6_two 173 = .ok (.iconst 1, 1) := by decide +kernel
theorem dX6_two_174 : decode cX6_two 174 = .ok (.iload 5, 2) := by decide +kernel
theorem dX6_two_176 : decode cX6_two 176 = .ok (.iload 6, 2) := by decide +kernel
theorem dX6_two_178 : decode cX6_two 178 = .ok (.isub, 1) := by decide +kernel
theorem dX6_two_179 : decode cX6_two 179 = .ok (.iastore, 1) := by decide +kernel
theorem dX6_two_180 : decode cX6_two 180 = .ok (.iload 4, 2) := by decide +kernel
theorem dX6_two_182 : decode cX6_two 182 = .ok (.ifCond .ne 12, 3) := by decide +kernel
theorem dX6_two_185 : decode cX6_two 185 = .ok (.aload_n 0, 1) := by decide +kernel
theorem dX6_two_186 : decode cX6_two 186 = .ok (.getfield 102, 3) := by decide +kernel
theorem dX6_two_189 : decode cX6_two 189 = .ok (.iload_n 3, 1) := by decide +kernel
theorem dX6_two_190 : decode cX6_two 190 = .ok (.laload, 1) := by decide +kernel
theorem dX6_two_191 : decode cX6_two 191 = .ok (.goto 10, 3) := by decide +kernel
theorem dX6_two_194 : decode cX6_two 194 = .ok (.aload_n 0, 1) := by decide +kernel
theorem dX6_two_195 : decode cX6_two 195 = .ok (.getfield 109, 3) := by decide +kernel
theorem dX6_two_198 : decode cX6_two 198 = .ok (.iload_n 3, 1) := by decide +kernel
theorem dX6_two_199 : decode cX6_two 199 = .ok (.iaload, 1) := by decide +kernel
theorem dX6_two_200 : decode cX6_two 200 = .ok (.i2l, 1) := by decide +kernel
theorem dX6_two_201 : decode cX6_two 201 = .ok (.lreturn, 1) := by decide +kernel
set_option maxRecDepth 20000 in
theorem ggX6_was_X6_isFarm : GoodIn wsX6_was wsX6_isFarm := goodIn_r _ [7, 8, 13, 14, 15, 16, 17, 18, 19, 20, 21, 22, 23, 24, 25, 26, 27, 28, 29, 30, 31, 32, 33, 34, 35, 36, 37, 38, 39, 40, 41, 42, 43, 44, 45, 46, 47, 48, 49, 50, 51, 52, 53, 54, 55, 56, 57, 58, 59, 60, 61, 62, 63, 64, 65, 66, 67] rfl (by decide +kernel)
set_option maxRecDepth 20000 in
theorem gX6_was_X6_isFarm : GoodIn wsX6_was (wsV RX6 133 RX6 yX6_isFarm wsX6_isFarm) := goodIn_app (goodIn_of _ (by decide +kernel)) ggX6_was_X6_isFarm
set_option maxRecDepth 20000 in
theorem ggX6_was_X6_isIn : GoodIn wsX6_was wsX6_isIn := goodIn_r _ [12] rfl (by decide +kernel)
set_option maxRecDepth 20000 in
theorem gX6_was_X6_isIn : GoodIn wsX6_was (wsV RX6 129 RX6 yX6_isIn wsX6_isIn) := goodIn_app (goodIn_of _ (by decide +kernel)) ggX6_was_X6_isIn
theorem dX6_was_0 : decode cX6_was 0 = .ok (.aload_n 0, 1) := by decide +kernel
theorem dX6_was_1 : decode cX6_was 1 = .ok (.iconst 0, 1) := by decide +kernel
theorem dX6_was_2 : decode cX6_was 2 = .ok (.putfield 121, 3) := by decide +kernel
theorem dX6_was_5 : decode cX6_was 5 = .ok (.aload_n 0, 1) := by decide +kernel
theorem dX6_was_6 : decode cX6_was 6 = .ok (.iload_n 1, 1) := by decide +kernel
theorem dX6_was_7 : decode cX6_was 7 = .ok (.invokevirtual 133, 3) := by decide +kernel
theorem dX6_was_10 : decode cX6_was 10 = .ok (.ifCond .eq 14, 3) := by decide +kernel
theorem dX6_was_13 : decode cX6_was 13 = .ok (.aload_n 0, 1) := by decide +kernel
theorem dX6_was_14 : decode cX6_was 14 = .ok (.iload_n 2, 1) := by decide +kernel
theorem dX6_was_15 : decode cX6_was 15 = .ok (.iconst (-1), 1) := by decide +kernel
theorem dX6_was_16 : decode cX6_was 16 = .ok (.bipush 60, 2) := by decide +kernel
theorem dX6_was_18 : decode cX6_was 18 = .ok (.invokevirtual 129, 3) := by decide +kernel
theorem dX6_was_21 : decode cX6_was 21 = .ok (.ifCond .ne 5, 3) := by decide +kernel
theorem dX6_was_24 : decode cX6_was 24 = .ok (.iconst 0, 1) := by decide +kernel
theorem dX6_was_25 : decode cX6_was 25 = .ok (.ireturn, 1) := by decide +kernel
theorem dX6_was_26 : decode cX6_was 26 = .ok (.aload_n 0, 1) := by decide +kernel
theorem dX6_was_27 : decode cX6_was 27 = .ok (.getfield 50, 3) := by decide +kernel
theorem dX6_was_30 : decode cX6_was 30 = .ok (.iload_n 1, 1) := by decide +kernel
theorem dX6_was_31 : decode cX6_was 31 = .ok (.iload_n 2, 1) := by decide +kernel
theorem dX6_was_32 : decode cX6_was 32 = .ok (.iastore, 1) := by decide +kernel
theorem dX6_was_33 : decode cX6_was 33 = .ok (.iconst 1, 1) := by decide +kernel
theorem dX6_was_34 : decode cX6_was 34 = .ok (.ireturn, 1) := by decide +kernel
set_option maxRecDepth 20000 in
theorem ggX6_feetBy_X6_size : GoodIn wsX6_feetBy wsX6_size := goodIn_r _ [10] rfl (by decide +kernel)
set_option maxRecDepth 20000 in
theorem gX6_feetBy_X6_size : GoodIn wsX6_feetBy (wsV RX6 338 RX6 yX6_size wsX6_size) := goodIn_app (goodIn_of _ (by decide +kernel)) ggX6_feetBy_X6_size
theorem dX6_feetBy_0 : decode cX6_feetBy 0 = .ok (.iload_n 1, 1) := by decide +kernel
theorem dX6_feetBy_1 : decode cX6_feetBy 1 = .ok (.istore_n 2, 1) := by decide +kernel
theorem dX6_feetBy_2 : decode cX6_feetBy 2 = .ok (.iconst 0, 1) := by decide +kernel
theorem dX6_feetBy_3 : decode cX6_feetBy 3 = .ok (.istore_n 3, 1) := by decide +kernel
theorem dX6_feetBy_4 : decode cX6_feetBy 4 = .ok (.iconst 0, 1) := by decide +kernel
theorem dX6_feetBy_5 : decode cX6_feetBy 5 = .ok (.istore 4, 2) := by decide +kernel
theorem dX6_feetBy_7 : decode cX6_feetBy 7 = .ok (.iload 4, 2) := by decide +kernel
theorem dX6_feetBy_9 : decode cX6_feetBy 9 = .ok (.aload_n 0, 1) := by decide +kernel
theorem dX6_feetBy_10 : decode cX6_feetBy 10 = .ok (.getfield 7, 3) := by decide +kernel
theorem dX6_feetBy_13 : decode cX6_feetBy 13 = .ok (.if_icmp .ge 67, 3) := by decide +kernel
theorem dX6_feetBy_16 : decode cX6_feetBy 16 = .ok (.iload_n 2, 1) := by decide +kernel
theorem dX6_feetBy_17 : decode cX6_feetBy 17 = .ok (.aload_n 0, 1) := by decide +kernel
theorem dX6_feetBy_18 : decode cX6_feetBy 18 = .ok (.getfield 13, 3) := by decide +kernel
theorem dX6_feetBy_21 : decode cX6_feetBy 21 = .ok (.iload 4, 2) := by decide +kernel
theorem dX6_feetBy_23 : decode cX6_feetBy 23 = .ok (.iaload, 1) := by decide +kernel
theorem dX6_feetBy_24 : decode cX6_feetBy 24 = .ok (.iadd, 1) := by decide +kernel
theorem dX6_feetBy_25 : decode cX6_feetBy 25 = .ok (.aload_n 0, 1) := by decide +kernel
theorem dX6_feetBy_26 : decode cX6_feetBy 26 = .ok (.getfield 50, 3) := by decide +kernel
theorem dX6_feetBy_29 : decode cX6_feetBy 29 = .ok (.iload 4, 2) := by decide +kernel
theorem dX6_feetBy_31 : decode cX6_feetBy 31 = .ok (.iaload, 1) := by decide +kernel
theorem dX6_feetBy_32 : decode cX6_feetBy 32 = .ok (.isub, 1) := by decide +kernel
theorem dX6_feetBy_33 : decode cX6_feetBy 33 = .ok (.istore_n 2, 1) := by decide +kernel
theorem dX6_feetBy_34 : decode cX6_feetBy 34 = .ok (.aload_n 0, 1) := by decide +kernel
theorem dX6_feetBy_35 : decode cX6_feetBy 35 = .ok (.iload_n 2, 1) := by decide +kernel
theorem dX6_feetBy_36 : decode cX6_feetBy 36 = .ok (.invokevirtual 338, 3) := by decide +kernel
theorem dX6_feetBy_39 : decode cX6_feetBy 39 = .ok (.aload_n 0, 1) := by decide +kernel
theorem dX6_feetBy_40 : decode cX6_feetBy 40 = .ok (.getfield 38, 3) := by decide +kernel
theorem dX6_feetBy_43 : decode cX6_feetBy 43 = .ok (.iload 4, 2) := by decide +kernel
theorem dX6_feetBy_45 : decode cX6_feetBy 45 = .ok (.iaload, 1) := by decide +kernel
theorem dX6_feetBy_46 : decode cX6_feetBy 46 = .ok (.iconst 1, 1) := by decide +kernel
theorem dX6_feetBy_47 : decode cX6_feetBy 47 = .ok (.if_icmp .ne 7, 3) := by decide +kernel
theorem dX6_feetBy_50 : decode cX6_feetBy 50 = .ok (.iconst 0, 1) := by decide +kernel
theorem dX6_feetBy_51 : decode cX6_feetBy 51 = .ok (.goto 10, 3) := by decide +kernel
theorem dX6_feetBy_54 : decode cX6_feetBy 54 = .ok (.aload_n 0, 1) := by decide +kernel
theorem dX6_feetBy_55 : decode cX6_feetBy 55 = .ok (.getfield 53, 3) := by decide +kernel
theorem dX6_feetBy_58 : decode cX6_feetBy 58 = .ok (.bipush 9, 2) := by decide +kernel
theorem dX6_feetBy_60 : decode cX6_feetBy 60 = .ok (.iaload, 1) := by decide +kernel
theorem dX6_feetBy_61 : decode cX6_feetBy 61 = .ok (.if_icmp .le 5, 3) := by decide +kernel
theorem dX6_feetBy_64 : decode cX6_feetBy 64 = .ok (.iconst (-1), 1) := by decide +kernel
theorem dX6_feetBy_65 : decode cX6_feetBy 65 = .ok (.ireturn, 1) := by decide +kernel
theorem dX6_feetBy_66 : decode cX6_feetBy 66 = .ok (.iload_n 3, 1) := by decide +kernel
theorem dX6_feetBy_67 : decode cX6_feetBy 67 = .ok (.aload_n 0, 1) := by decide +kernel
theorem dX6_feetBy_68 : decode cX6_feetBy 68 = .ok (.iload_n 2, 1) := by decide +kernel
theorem dX6_feetBy_69 : decode cX6_feetBy 69 = .ok (.invokevirtual 338, 3) := by decide +kernel
theorem dX6_feetBy_72 : decode cX6_feetBy 72 = .ok (.iadd, 1) := by decide +kernel
theorem dX6_feetBy_73 : decode cX6_feetBy 73 = .ok (.istore_n 3, 1) := by decide +kernel
theorem dX6_feetBy_74 : decode cX6_feetBy 74 = .ok (.iinc 4 1, 3) := by decide +kernel
theorem dX6_feetBy_77 : decode cX6_feetBy 77 = .ok (.goto (-70), 3) := by decide +kernel
theorem dX6_feetBy_80 : decode cX6_feetBy 80 = .ok (.iload_n 2, 1) := by decide +kernel
theorem dX6_feetBy_81 : decode cX6_feetBy 81 = .ok (.iload_n 1, 1) := by decide +kernel
theorem dX6_feetBy_82 : decode cX6_feetBy 82 = .ok (.if_icmp .ne 7, 3) := by decide +kernel
theorem dX6_feetBy_85 : decode cX6_feetBy 85 = .ok (.iload_n 3, 1) := by decide +kernel
theorem dX6_feetBy_86 : decode cX6_feetBy 86 = .ok (.goto 4, 3) := by decide +kernel
theorem dX6_feetBy_89 : decode cX6_feetBy 89 = .ok (.iconst (-1), 1) := by decide +kernel
theorem dX6_feetBy_90 : decode cX6_feetBy 90 = .ok (.ireturn, 1) := by decide +kernel
set_option maxRecDepth 20000 in
theorem ggX6_judged_X6_feetBy : GoodIn wsX6_judged wsX6_feetBy := goodIn_r _ [9, 2, 10, 3, 11, 4, 12, 13, 14, 8, 15, 16, 17, 18, 19, 20, 21, 22, 23, 24, 25, 26, 27, 28, 29, 30, 31, 32, 33, 34, 35, 36, 37, 38, 39, 40, 41, 42, 43, 44, 45, 46, 47, 48, 49, 50, 51, 52, 53, 54, 55, 56, 57, 58, 59, 60, 61, 62, 63, 64, 65, 66, 67, 68, 69, 70] rfl (by decide +kernel)
set_option maxRecDepth 20000 in
theorem gX6_judged_X6_feetBy : GoodIn wsX6_judged (wsV RX6 341 RX6 yX6_feetBy wsX6_feetBy) := goodIn_app (goodIn_of _ (by decide +kernel)) ggX6_judged_X6_feetBy
theorem dX6_judged_0 : decode cX6_judged 0 = .ok (.aload_n 0, 1) := by decide +kernel
theorem dX6_judged_1 : decode cX6_judged 1 = .ok (.iconst 0, 1) := by decide +kernel
theorem dX6_judged_2 : decode cX6_judged 2 = .ok (.putfield 121, 3) := by decide +kernel
theorem dX6_judged_5 : decode cX6_judged 5 = .ok (.iconst 0, 1) := by decide +kernel
theorem dX6_judged_6 : decode cX6_judged 6 = .ok (.istore_n 1, 1) := by decide +kernel
theorem dX6_judged_7 : decode cX6_judged 7 = .ok (.iload_n 1, 1) := by decide +kernel
theorem dX6_judged_8 : decode cX6_judged 8 = .ok (.aload_n 0, 1) := by decide +kernel
theorem dX6_judged_9 : decode cX6_judged 9 = .ok (.getfield 7, 3) := by decide +kernel
theorem dX6_judged_12 : decode cX6_judged 12 = .ok (.if_icmp .ge 21, 3) := by decide +kernel
theorem dX6_judged_15 : decode cX6_judged 15 = .ok (.aload_n 0, 1) := by decide +kernel
theorem dX6_judged_16 : decode cX6_judged 16 = .ok (.getfield 50, 3) := by decide +kernel
theorem dX6_judged_19 : decode cX6_judged 19 = .ok (.iload_n 1, 1) := by decide +kernel
theorem dX6_judged_20 : decode cX6_judged 20 = .ok (.iaload, 1) := by decide +kernel
theorem dX6_judged_21 : decode cX6_judged 21 = .ok (.iconst (-1), 1) := by decide +kernel
theorem dX6_judged_22 : decode cX6_judged 22 = .ok (.if_icmp .ne 5, 3) := by decide +kernel
theorem dX6_judged_25 : decode cX6_judged 25 = .ok (.iconst (-1), 1) := by decide +kernel
theorem dX6_judged_26 : decode cX6_judged 26 = .ok (.ireturn, 1) := by decide +kernel
theorem dX6_judged_27 : decode cX6_judged 27 = .ok (.iinc 1 1, 3) := by decide +kernel
theorem dX6_judged_30 : decode cX6_judged 30 = .ok (.goto (-23), 3) := by decide +kernel
theorem dX6_judged_33 : decode cX6_judged 33 = .ok (.iconst (-1), 1) := by decide +kernel
theorem dX6_judged_34 : decode cX6_judged 34 = .ok (.istore_n 1, 1) := by decide +kernel
theorem dX6_judged_35 : decode cX6_judged 35 = .ok (.aload_n 0, 1) := by decide +kernel
theorem dX6_judged_36 : decode cX6_judged 36 = .ok (.getfield 53, 3) := by decide +kernel
theorem dX6_judged_39 : decode cX6_judged 39 = .ok (.bipush 9, 2) := by decide +kernel
theorem dX6_judged_41 : decode cX6_judged 41 = .ok (.iaload, 1) := by decide +kernel
theorem dX6_judged_42 : decode cX6_judged 42 = .ok (.ineg, 1) := by decide +kernel
theorem dX6_judged_43 : decode cX6_judged 43 = .ok (.istore_n 2, 1) := by decide +kernel
theorem dX6_judged_44 : decode cX6_judged 44 = .ok (.iload_n 2, 1) := by decide +kernel
theorem dX6_judged_45 : decode cX6_judged 45 = .ok (.aload_n 0, 1) := by decide +kernel
theorem dX6_judged_46 : decode cX6_judged 46 = .ok (.getfield 53, 3) := by decide +kernel
theorem dX6_judged_49 : decode cX6_judged 49 = .ok (.bipush 9, 2) := by decide +kernel
theorem dX6_judged_51 : decode cX6_judged 51 = .ok (.iaload, 1) := by decide +kernel
theorem dX6_judged_52 : decode cX6_judged 52 = .ok (.if_icmp .gt 32, 3) := by decide +kernel
theorem dX6_judged_55 : decode cX6_judged 55 = .ok (.aload_n 0, 1) := by decide +kernel
theorem dX6_judged_56 : decode cX6_judged 56 = .ok (.iload_n 2, 1) := by decide +kernel
theorem dX6_judged_57 : decode cX6_judged 57 = .ok (.invokevirtual 341, 3) := by decide +kernel
theorem dX6_judged_60 : decode cX6_judged 60 = .ok (.istore_n 3, 1) := by decide +kernel
theorem dX6_judged_61 : decode cX6_judged 61 = .ok (.iload_n 3, 1) := by decide +kernel
theorem dX6_judged_62 : decode cX6_judged 62 = .ok (.iconst (-1), 1) := by decide +kernel
theorem dX6_judged_63 : decode cX6_judged 63 = .ok (.if_icmp .eq 15, 3) := by decide +kernel
theorem dX6_judged_66 : decode cX6_judged 66 = .ok (.iload_n 1, 1) := by decide +kernel
theorem dX6_judged_67 : decode cX6_judged 67 = .ok (.iconst (-1), 1) := by decide +kernel
theorem dX6_judged_68 : decode cX6_judged 68 = .ok (.if_icmp .eq 8, 3) := by decide +kernel
theorem dX6_judged_71 : decode cX6_judged 71 = .ok (.iload_n 3, 1) := by decide +kernel
theorem dX6_judged_72 : decode cX6_judged 72 = .ok (.iload_n 1, 1) := by decide +kernel
theorem dX6_judged_73 : decode cX6_judged 73 = .ok (.if_icmp .ge 5, 3) := by decide +kernel
theorem dX6_judged_76 : decode cX6_judged 76 = .ok (.iload_n 3, 1) := by decide +kernel
theorem dX6_judged_77 : decode cX6_judged 77 = .ok (.istore_n 1, 1) := by decide +kernel
theorem dX6_judged_78 : decode cX6_judged 78 = .ok (.iinc 2 1, 3) := by decide +kernel
theorem dX6_judged_81 : decode cX6_judged 81 = .ok (.goto (-37), 3) := by decide +kernel
theorem dX6_judged_84 : decode cX6_judged 84 = .ok (.iload_n 1, 1) := by decide +kernel
theorem dX6_judged_85 : decode cX6_judged 85 = .ok (.ireturn, 1) := by decide +kernel
theorem dX6_putAside_0 : decode cX6_putAside 0 = .ok (.aload_n 0, 1) := by decide +kernel
theorem dX6_putAside_1 : decode cX6_putAside 1 = .ok (.aload_n 0, 1) := by decide +kernel
theorem dX6_putAside_2 : decode cX6_putAside 2 = .ok (.getfield 344, 3) := by decide +kernel
theorem dX6_putAside_5 : decode cX6_putAside 5 = .ok (.iconst 1, 1) := by decide +kernel
theorem dX6_putAside_6 : decode cX6_putAside 6 = .ok (.iadd, 1) := by decide +kernel
theorem dX6_putAside_7 : decode cX6_putAside 7 = .ok (.putfield 344, 3) := by decide +kernel
theorem dX6_putAside_10 : decode cX6_putAside 10 = .ok (.aload_n 0, 1) := by decide +kernel
theorem dX6_putAside_11 : decode cX6_putAside 11 = .ok (.getfield 347, 3) := by decide +kernel
theorem dX6_putAside_14 : decode cX6_putAside 14 = .ok (.ifCond .ne 15, 3) := by decide +kernel
theorem dX6_putAside_17 : decode cX6_putAside 17 = .ok (.aload_n 0, 1) := by decide +kernel
theorem dX6_putAside_18 : decode cX6_putAside 18 = .ok (.getfield 112, 3) := by decide +kernel
theorem dX6_putAside_21 : decode cX6_putAside 21 = .ok (.aload_n 0, 1) := by decide +kernel
theorem dX6_putAside_22 : decode cX6_putAside 22 = .ok (.getfield 344, 3) := by decide +kernel
theorem dX6_putAside_25 : decode cX6_putAside 25 = .ok (.iconst 1, 1) := by decide +kernel
theorem dX6_putAside_26 : decode cX6_putAside 26 = .ok (.isub, 1) := by decide +kernel
theorem dX6_putAside_27 : decode cX6_putAside 27 = .ok (.iaload, 1) := by decide +kernel
theorem dX6_putAside_28 : decode cX6_putAside 28 = .ok (.ireturn, 1) := by decide +kernel
theorem dX6_putAside_29 : decode cX6_putAside 29 = .ok (.aload_n 0, 1) := by decide +kernel
theorem dX6_putAside_30 : decode cX6_putAside 30 = .ok (.getfield 112, 3) := by decide +kernel
theorem dX6_putAside_33 : decode cX6_putAside 33 = .ok (.aload_n 0, 1) := by decide +kernel
theorem dX6_putAside_34 : decode cX6_putAside 34 = .ok (.getfield 344, 3) := by decide +kernel
theorem dX6_putAside_37 : decode cX6_putAside 37 = .ok (.iconst 1, 1) := by decide +kernel
theorem dX6_putAside_38 : decode cX6_putAside 38 = .ok (.isub, 1) := by decide +kernel
theorem dX6_putAside_39 : decode cX6_putAside 39 = .ok (.iload_n 1, 1) := by decide +kernel
theorem dX6_putAside_40 : decode cX6_putAside 40 = .ok (.iastore, 1) := by decide +kernel
theorem dX6_putAside_41 : decode cX6_putAside 41 = .ok (.iload_n 1, 1) := by decide +kernel
theorem dX6_putAside_42 : decode cX6_putAside 42 = .ok (.ireturn, 1) := by decide +kernel
set_option maxRecDepth 20000 in
theorem ggX6_asides_X6_putAside : GoodIn wsX6_asides wsX6_putAside := goodIn_r _ [25, 2, 1, 26, 27, 28, 29, 30, 31, 32, 33, 34, 35, 36, 37, 38, 39, 40, 41, 42, 43, 44, 45, 46, 47, 48, 49, 50, 51, 52, 53, 54, 55, 56, 57, 58, 59, 60, 61, 62, 63, 64, 65, 66, 67, 68, 69, 70, 71, 72, 73, 74, 75, 76, 77, 78, 79, 80, 81] rfl (by decide +kernel)
set_option maxRecDepth 20000 in
theorem gX6_asides_X6_putAside : GoodIn wsX6_asides (wsV RX6 351 RX6 yX6_putAside wsX6_putAside) := goodIn_app (goodIn_of _ (by decide +kernel)) ggX6_asides_X6_putAside
theorem dX6_asides_0 : decode cX6_asides 0 = .ok (.aload_n 0, 1) := by decide +kernel
theorem dX6_asides_1 : decode cX6_asides 1 = .ok (.iload_n 1, 1) := by decide +kernel
theorem dX6_asides_2 : decode cX6_asides 2 = .ok (.putfield 347, 3) := by decide +kernel
theorem dX6_asides_5 : decode cX6_asides 5 = .ok (.aload_n 0, 1) := by decide +kernel
theorem dX6_asides_6 : decode cX6_asides 6 = .ok (.iconst 0, 1) := by decide +kernel
theorem dX6_asides_7 : decode cX6_asides 7 = .ok (.putfield 344, 3) := by decide +kernel
theorem dX6_asides_10 : decode cX6_asides 10 = .ok (.aload_n 0, 1) := by decide +kernel
theorem dX6_asides_11 : decode cX6_asides 11 = .ok (.aload_n 0, 1) := by decide +kernel
theorem dX6_asides_12 : decode cX6_asides 12 = .ok (.aload_n 0, 1) := by decide +kernel
theorem dX6_asides_13 : decode cX6_asides 13 = .ok (.getfield 124, 3) := by decide +kernel
theorem dX6_asides_16 : decode cX6_asides 16 = .ok (.invokevirtual 351, 3) := by decide +kernel
theorem dX6_asides_19 : decode cX6_asides 19 = .ok (.putfield 124, 3) := by decide +kernel
theorem dX6_asides_22 : decode cX6_asides 22 = .ok (.aload_n 0, 1) := by decide +kernel
theorem dX6_asides_23 : decode cX6_asides 23 = .ok (.aload_n 0, 1) := by decide +kernel
theorem dX6_asides_24 : decode cX6_asides 24 = .ok (.aload_n 0, 1) := by decide +kernel
theorem dX6_asides_25 : decode cX6_asides 25 = .ok (.getfield 7, 3) := by decide +kernel
theorem dX6_asides_28 : decode cX6_asides 28 = .ok (.invokevirtual 351, 3) := by decide +kernel
theorem dX6_asides_31 : decode cX6_asides 31 = .ok (.putfield 7, 3) := by decide +kernel
theorem dX6_asides_34 : decode cX6_asides 34 = .ok (.aload_n 0, 1) := by decide +kernel
theorem dX6_asides_35 : decode cX6_asides 35 = .ok (.aload_n 0, 1) := by decide +kernel
theorem dX6_asides_36 : decode cX6_asides 36 = .ok (.aload_n 0, 1) := by decide +kernel
theorem dX6_asides_37 : decode cX6_asides 37 = .ok (.getfield 251, 3) := by decide +kernel
theorem dX6_asides_40 : decode cX6_asides 40 = .ok (.invokevirtual 351, 3) := by decide +kernel
theorem dX6_asides_43 : decode cX6_asides 43 = .ok (.putfield 251, 3) := by decide +kernel
theorem dX6_asides_46 : decode cX6_asides 46 = .ok (.aload_n 0, 1) := by decide +kernel
theorem dX6_asides_47 : decode cX6_asides 47 = .ok (.aload_n 0, 1) := by decide +kernel
theorem dX6_asides_48 : decode cX6_asides 48 = .ok (.aload_n 0, 1) := by decide +kernel
theorem dX6_asides_49 : decode cX6_asides 49 = .ok (.getfield 263, 3) := by decide +kernel
theorem dX6_asides_52 : decode cX6_asides 52 = .ok (.invokevirtual 351, 3) := by decide +kernel
theorem dX6_asides_55 : decode cX6_asides 55 = .ok (.putfield 263, 3) := by decide +kernel
theorem dX6_asides_58 : decode cX6_asides 58 = .ok (.iconst 0, 1) := by decide +kernel
theorem dX6_asides_59 : decode cX6_asides 59 = .ok (.istore_n 2, 1) := by decide +kernel
theorem dX6_asides_60 : decode cX6_asides 60 = .ok (.iload_n 2, 1) := by decide +kernel
theorem dX6_asides_61 : decode cX6_asides 61 = .ok (.bipush 10, 2) := by decide +kernel
theorem dX6_asides_63 : decode cX6_asides 63 = .ok (.if_icmp .ge 233, 3) := by decide +kernel
theorem dX6_asides_66 : decode cX6_asides 66 = .ok (.aload_n 0, 1) := by decide +kernel
theorem dX6_asides_67 : decode cX6_asides 67 = .ok (.getfield 53, 3) := by decide +kernel
theorem dX6_asides_70 : decode cX6_asides 70 = .ok (.iload_n 2, 1) := by decide +kernel
theorem dX6_asides_71 : decode cX6_asides 71 = .ok (.aload_n 0, 1) := by decide +kernel
theorem dX6_asides_72 : decode cX6_asides 72 = .ok (.aload_n 0, 1) := by decide +kernel
theorem dX6_asides_73 : decode cX6_asides 73 = .ok (.getfield 53, 3) := by decide +kernel
theorem dX6_asides_76 : decode cX6_asides 76 = .ok (.iload_n 2, 1) := by decide +kernel
theorem dX6_asides_77 : decode cX6_asides 77 = .ok (.iaload, 1) := by decide +kernel
theorem dX6_asides_78 : decode cX6_asides 78 = .ok (.invokevirtual 351, 3) := by decide +kernel
theorem dX6_asides_81 : decode cX6_asides 81 = .ok (.iastore, 1) := by decide +kernel
theorem dX6_asides_82 : decode cX6_asides 82 = .ok (.aload_n 0, 1) := by decide +kernel
theorem dX6_asides_83 : decode cX6_asides 83 = .ok (.getfield 13, 3) := by decide +kernel
theorem dX6_asides_86 : decode cX6_asides 86 = .ok (.iload_n 2, 1) := by decide +kernel
theorem dX6_asides_87 : decode cX6_asides 87 = .ok (.aload_n 0, 1) := by decide +kernel
theorem dX6_asides_88 : decode cX6_asides 88 = .ok (.aload_n 0, 1) := by decide +kernel
theorem dX6_asides_89 : decode cX6_asides 89 = .ok (.getfield 13, 3) := by decide +kernel
theorem dX6_asides_92 : decode cX6_asides 92 = .ok (.iload_n 2, 1) := by decide +kernel
theorem dX6_asides_93 : decode cX6_asides 93 = .ok (.iaload, 1) := by decide +kernel
theorem dX6_asides_94 : decode cX6_asides 94 = .ok (.invokevirtual 351, 3) := by decide +kernel
theorem dX6_asides_97 : decode cX6_asides 97 = .ok (.iastore, 1) := by decide +kernel
theorem dX6_asides_98 : decode cX6_asides 98 = .ok (.aload_n 0, 1) := by decide +kernel
theorem dX6_asides_99 : decode cX6_asides 99 = .ok (.getfield 17, 3) := by decide +kernel
theorem dX6_asides_102 : decode cX6_asides 102 = .ok (.iload_n 2, 1) := by decide +kernel
theorem dX6_asides_103 : decode cX6_asides 103 = .ok (.aload_n 0, 1) := by decide +kernel
theorem dX6_asides_104 : decode cX6_asides 104 = .ok (.aload_n 0, 1) := by decide +kernel
theorem dX6_asides_105 : decode cX6_asides 105 = .ok (.getfield 17, 3) := by decide +kernel
theorem dX6_asides_108 : decode cX6_asides 108 = .ok (.iload_n 2, 1) := by decide +kernel
theorem dX6_asides_109 : decode cX6_asides 109 = .ok (.iaload, 1) := by decide +kernel
theorem dX6_asides_110 : decode cX6_asides 110 = .ok (.invokevirtual 351, 3) := by decide +kernel
theorem dX6_asides_113 : decode cX6_asides 113 = .ok (.iastore, 1) := by decide +kernel
theorem dX6_asides_114 : decode cX6_asides 114 = .ok (.aload_n 0, 1) := by decide +kernel
theorem dX6_asides_115 : decode cX6_asides 115 = .ok (.getfield 20, 3) := by decide +kernel
theorem dX6_asides_118 : decode cX6_asides 118 = .ok (.iload_n 2, 1) := by decide +kernel
theorem dX6_asides_119 : decode cX6_asides 119 = .ok (.aload_n 0, 1) := by decide +kernel
theorem dX6_asides_120 : decode cX6_asides 120 = .ok (.aload_n 0, 1) := by decide +kernel
theorem dX6_asides_121 : decode cX6_asides 121 = .ok (.getfield 20, 3) := by decide +kernel
theorem dX6_asides_124 : decode cX6_asides 124 = .ok (.iload_n 2, 1) := by decide +kernel
theorem dX6_asides_125 : decode cX6_asides 125 = .ok (.iaload, 1) := by decide +kernel
theorem dX6_asides_126 : decode cX6_asides 126 = .ok (.invokevirtual 351, 3) := by decide +kernel
theorem dX6_asides_129 : decode cX6_asides 129 = .ok (.iastore, 1) := by decide +kernel
theorem dX6_asides_130 : decode cX6_asides 130 = .ok (.aload_n 0, 1) := by decide +kernel
theorem dX6_asides_131 : decode cX6_asides 131 = .ok (.getfield 23, 3) := by decide +kernel
theorem dX6_asides_134 : decode cX6_asides 134 = .ok (.iload_n 2, 1) := by decide +kernel
theorem dX6_asides_135 : decode cX6_asides 135 = .ok (.aload_n 0, 1) := by decide +kernel
theorem dX6_asides_136 : decode cX6_asides 136 = .ok (.aload_n 0, 1) := by decide +kernel
theorem dX6_asides_137 : decode cX6_asides 137 = .ok (.getfield 23, 3) := by decide +kernel
theorem dX6_asides_140 : decode cX6_asides 140 = .ok (.iload_n 2, 1) := by decide +kernel
theorem dX6_asides_141 : decode cX6_asides 141 = .ok (.iaload, 1) := by decide +kernel
theorem dX6_asides_142 : decode cX6_asides 142 = .ok (.invokevirtual 351, 3) := by decide +kernel
theorem dX6_asides_145 : decode cX6_asides 145 = .ok (.iastore, 1) := by decide +kernel
theorem dX6_asides_146 : decode cX6_asides 146 = .ok (.aload_n 0, 1) := by decide +kernel
theorem dX6_asides_147 : decode cX6_asides 147 = .ok (.getfield 26, 3) := by decide +kernel
theorem dX6_asides_150 : decode cX6_asides 150 = .ok (.iload_n 2, 1) := by decide +kernel
theorem dX6_asides_151 : decode cX6_asides 151 = .ok (.aload_n 0, 1) := by decide +kernel
theorem dX6_asides_152 : decode cX6_asides 152 = .ok (.aload_n 0, 1) := by decide +kernel
theorem dX6_asides_153 : decode cX6_asides 153 = .ok (.getfield 26, 3) := by decide +kernel
theorem dX6_asides_156 : decode cX6_asides 156 = .ok (.iload_n 2, 1) := by decide +kernel
theorem dX6_asides_157 : decode cX6_asides 157 = .ok (.iaload, 1) := by decide +kernel
theorem dX6_asides_158 : decode cX6_asides 158 = .ok (.invokevirtual 351, 3) := by decide +kernel
theorem dX6_asides_161 : decode cX6_asides 161 = .ok (.iastore, 1) := by decide +kernel
theorem dX6_asides_162 : decode cX6_asides 162 = .ok (.aload_n 0, 1) := by decide +kernel
theorem dX6_asides_163 : decode cX6_asides 163 = .ok (.getfield 29, 3) := by decide +kernel
theorem dX6_asides_166 : decode cX6_asides 166 = .ok (.iload_n 2, 1) := by decide +kernel
theorem dX6_asides_167 : decode cX6_asides 167 = .ok (.aload_n 0, 1) := by decide +kernel
theorem dX6_asides_168 : decode cX6_asides 168 = .ok (.aload_n 0, 1) := by decide +kernel
theorem dX6_asides_169 : decode cX6_asides 169 = .ok (.getfield 29, 3) := by decide +kernel
theorem dX6_asides_172 : decode cX6_asides 172 = .ok (.iload_n 2, 1) := by decide +kernel
theorem dX6_asides_173 : decode cX6_asides 173 = .ok (.iaload, 1) := by decide +kernel
theorem dX6_asides_174 : decode cX6_asides 174 = .ok (.invokevirtual 351, 3) := by decide +kernel
theorem dX6_asides_177 : decode cX6_asides 177 = .ok (.iastore, 1) := by decide +kernel
theorem dX6_asides_178 : decode cX6_asides 178 = .ok (.aload_n 0, 1) := by decide +kernel
theorem dX6_asides_179 : decode cX6_asides 179 = .ok (.getfield 32, 3) := by decide +kernel
theorem dX6_asides_182 : decode cX6_asides 182 = .ok (.iload_n 2, 1) := by decide +kernel
theorem dX6_asides_183 : decode cX6_asides 183 = .ok (.aload_n 0, 1) := by decide +kernel
theorem dX6_asides_184 : decode cX6_asides 184 = .ok (.aload_n 0, 1) := by decide +kernel
theorem dX6_asides_185 : decode cX6_asides 185 = .ok (.getfield 32, 3) := by decide +kernel
theorem dX6_asides_188 : decode cX6_asides 188 = .ok (.iload_n 2, 1) := by decide +kernel
theorem dX6_asides_189 : decode cX6_asides 189 = .ok (.iaload, 1) := by decide +kernel
theorem dX6_asides_190 : decode cX6_asides 190 = .ok (.invokevirtual 351, 3) := by decide +kernel
theorem dX6_asides_193 : decode cX6_asides 193 = .ok (.iastore, 1) := by decide +kernel
theorem dX6_asides_194 : decode cX6_asides 194 = .ok (.aload_n 0, 1) := by decide +kernel
theorem dX6_asides_195 : decode cX6_asides 195 = .ok (.getfield 35, 3) := by decide +kernel
theorem dX6_asides_198 : decode cX6_asides 198 = .ok (.iload_n 2, 1) := by decide +kernel
theorem dX6_asides_199 : decode cX6_asides 199 = .ok (.aload_n 0, 1) := by decide +kernel
theorem dX6_asides_200 : decode cX6_asides 200 = .ok (.aload_n 0, 1) := by decide +kernel
theorem dX6_asides_201 : decode cX6_asides 201 = .ok (.getfield 35, 3) := by decide +kernel
theorem dX6_asides_204 : decode cX6_asides 204 = .ok (.iload_n 2, 1) := by decide +kernel
theorem dX6_asides_205 : decode cX6_asides 205 = .ok (.iaload, 1) := by decide +kernel
theorem dX6_asides_206 : decode cX6_asides 206 = .ok (.invokevirtual 351, 3) := by decide +kernel
theorem dX6_asides_209 : decode cX6_asides 209 = .ok (.iastore, 1) := by decide +kernel
theorem dX6_asides_210 : decode cX6_asides 210 = .ok (.aload_n 0, 1) := by decide +kernel
theorem dX6_asides_211 : decode cX6_asides 211 = .ok (.getfield 38, 3) := by decide +kernel
theorem dX6_asides_214 : decode cX6_asides 214 = .ok (.iload_n 2, 1) := by decide +kernel
theorem dX6_asides_215 : decode cX6_asides 215 = .ok (.aload_n 0, 1) := by decide +kernel
theorem dX6_asides_216 : decode cX6_asides 216 = .ok (.aload_n 0, 1) := by decide +kernel
theorem dX6_asides_217 : decode cX6_asides 217 = .ok (.getfield 38, 3) := by decide +kernel
theorem dX6_asides_220 : decode cX6_asides 220 = .ok (.iload_n 2, 1) := by decide +kernel
theorem dX6_asides_221 : decode cX6_asides 221 = .ok (.iaload, 1) := by decide +kernel
theorem dX6_asides_222 : decode cX6_asides 222 = .ok (.invokevirtual 351, 3) := by decide +kernel
theorem dX6_asides_225 : decode cX6_asides 225 = .ok (.iastore, 1) := by decide +kernel
theorem dX6_asides_226 : decode cX6_asides 226 = .ok (.aload_n 0, 1) := by decide +kernel
theorem dX6_asides_227 : decode cX6_asides 227 = .ok (.getfield 41, 3) := by decide +kernel
theorem dX6_asides_230 : decode cX6_asides 230 = .ok (.iload_n 2, 1) := by decide +kernel
theorem dX6_asides_231 : decode cX6_asides 231 = .ok (.aload_n 0, 1) := by decide +kernel
theorem dX6_asides_232 : decode cX6_asides 232 = .ok (.aload_n 0, 1) := by decide +kernel
theorem dX6_asides_233 : decode cX6_asides 233 = .ok (.getfield 41, 3) := by decide +kernel
theorem dX6_asides_236 : decode cX6_asides 236 = .ok (.iload_n 2, 1) := by decide +kernel
theorem dX6_asides_237 : decode cX6_asides 237 = .ok (.iaload, 1) := by decide +kernel
theorem dX6_asides_238 : decode cX6_asides 238 = .ok (.invokevirtual 351, 3) := by decide +kernel
theorem dX6_asides_241 : decode cX6_asides 241 = .ok (.iastore, 1) := by decide +kernel
theorem dX6_asides_242 : decode cX6_asides 242 = .ok (.aload_n 0, 1) := by decide +kernel
theorem dX6_asides_243 : decode cX6_asides 243 = .ok (.getfield 44, 3) := by decide +kernel
theorem dX6_asides_246 : decode cX6_asides 246 = .ok (.iload_n 2, 1) := by decide +kernel
theorem dX6_asides_247 : decode cX6_asides 247 = .ok (.aload_n 0, 1) := by decide +kernel
theorem dX6_asides_248 : decode cX6_asides 248 = .ok (.aload_n 0, 1) := by decide +kernel
theorem dX6_asides_249 : decode cX6_asides 249 = .ok (.getfield 44, 3) := by decide +kernel
theorem dX6_asides_252 : decode cX6_asides 252 = .ok (.iload_n 2, 1) := by decide +kernel
theorem dX6_asides_253 : decode cX6_asides 253 = .ok (.iaload, 1) := by decide +kernel
theorem dX6_asides_254 : decode cX6_asides 254 = .ok (.invokevirtual 351, 3) := by decide +kernel
theorem dX6_asides_257 : decode cX6_asides 257 = .ok (.iastore, 1) := by decide +kernel
theorem dX6_asides_258 : decode cX6_asides 258 = .ok (.aload_n 0, 1) := by decide +kernel
theorem dX6_asides_259 : decode cX6_asides 259 = .ok (.getfield 47, 3) := by decide +kernel
theorem dX6_asides_262 : decode cX6_asides 262 = .ok (.iload_n 2, 1) := by decide +kernel
theorem dX6_asides_263 : decode cX6_asides 263 = .ok (.aload_n 0, 1) := by decide +kernel
theorem dX6_asides_264 : decode cX6_asides 264 = .ok (.aload_n 0, 1) := by decide +kernel
theorem dX6_asides_265 : decode cX6_asides 265 = .ok (.getfield 47, 3) := by decide +kernel
theorem dX6_asides_268 : decode cX6_asides 268 = .ok (.iload_n 2, 1) := by decide +kernel
theorem dX6_asides_269 : decode cX6_asides 269 = .ok (.iaload, 1) := by decide +kernel
theorem dX6_asides_270 : decode cX6_asides 270 = .ok (.invokevirtual 351, 3) := by decide +kernel
theorem dX6_asides_273 : decode cX6_asides 273 = .ok (.iastore, 1) := by decide +kernel
theorem dX6_asides_274 : decode cX6_asides 274 = .ok (.aload_n 0, 1) := by decide +kernel
theorem dX6_asides_275 : decode cX6_asides 275 = .ok (.getfield 50, 3) := by decide +kernel
theorem dX6_asides_278 : decode cX6_asides 278 = .ok (.iload_n 2, 1) := by decide +kernel
theorem dX6_asides_279 : decode cX6_asides 279 = .ok (.aload_n 0, 1) := by decide +kernel
theorem dX6_asides_280 : decode cX6_asides 280 = .ok (.aload_n 0, 1) := by decide +kernel
theorem dX6_asides_281 : decode cX6_asides 281 = .ok (.getfield 50, 3) := by decide +kernel
theorem dX6_asides_284 : decode cX6_asides 284 = .ok (.iload_n 2, 1) := by decide +kernel
theorem dX6_asides_285 : decode cX6_asides 285 = .ok (.iaload, 1) := by decide +kernel
theorem dX6_asides_286 : decode cX6_asides 286 = .ok (.invokevirtual 351, 3) := by decide +kernel
theorem dX6_asides_289 : decode cX6_asides 289 = .ok (.iastore, 1) := by decide +kernel
theorem dX6_asides_290 : decode cX6_asides 290 = .ok (.iinc 2 1, 3) := by decide +kernel
theorem dX6_asides_293 : decode cX6_asides 293 = .ok (.goto (-233), 3) := by decide +kernel
theorem dX6_asides_296 : decode cX6_asides 296 = .ok (.return_, 1) := by decide +kernel
theorem dX6_purses_0 : decode cX6_purses 0 = .ok (.iconst 0, 1) := by decide +kernel
theorem dX6_purses_1 : decode cX6_purses 1 = .ok (.istore_n 1, 1) := by decide +kernel
theorem dX6_purses_2 : decode cX6_purses 2 = .ok (.iconst 0, 1) := by decide +kernel
theorem dX6_purses_3 : decode cX6_purses 3 = .ok (.istore_n 2, 1) := by decide +kernel
theorem dX6_purses_4 : decode cX6_purses 4 = .ok (.iload_n 2, 1) := by decide +kernel
theorem dX6_purses_5 : decode cX6_purses 5 = .ok (.aload_n 0, 1) := by decide +kernel
theorem dX6_purses_6 : decode cX6_purses 6 = .ok (.getfield 7, 3) := by decide +kernel
theorem dX6_purses_9 : decode cX6_purses 9 = .ok (.if_icmp .ge 18, 3) := by decide +kernel
theorem dX6_purses_12 : decode cX6_purses 12 = .ok (.iload_n 1, 1) := by decide +kernel
theorem dX6_purses_13 : decode cX6_purses 13 = .ok (.aload_n 0, 1) := by decide +kernel
theorem dX6_purses_14 : decode cX6_purses 14 = .ok (.getfield 26, 3) := by decide +kernel
theorem dX6_purses_17 : decode cX6_purses 17 = .ok (.iload_n 2, 1) := by decide +kernel
theorem dX6_purses_18 : decode cX6_purses 18 = .ok (.iaload, 1) := by decide +kernel
theorem dX6_purses_19 : decode cX6_purses 19 = .ok (.iadd, 1) := by decide +kernel
theorem dX6_purses_20 : decode cX6_purses 20 = .ok (.istore_n 1, 1) := by decide +kernel
theorem dX6_purses_21 : decode cX6_purses 21 = .ok (.iinc 2 1, 3) := by decide +kernel
theorem dX6_purses_24 : decode cX6_purses 24 = .ok (.goto (-20), 3) := by decide +kernel
theorem dX6_purses_27 : decode cX6_purses 27 = .ok (.iload_n 1, 1) := by decide +kernel
theorem dX6_purses_28 : decode cX6_purses 28 = .ok (.ireturn, 1) := by decide +kernel
theorem dX6_caughtAll_0 : decode cX6_caughtAll 0 = .ok (.iconst 0, 1) := by decide +kernel
theorem dX6_caughtAll_1 : decode cX6_caughtAll 1 = .ok (.istore_n 1, 1) := by decide +kernel
theorem dX6_caughtAll_2 : decode cX6_caughtAll 2 = .ok (.iconst 0, 1) := by decide +kernel
theorem dX6_caughtAll_3 : decode cX6_caughtAll 3 = .ok (.istore_n 2, 1) := by decide +kernel
theorem dX6_caughtAll_4 : decode cX6_caughtAll 4 = .ok (.iload_n 2, 1) := by decide +kernel
theorem dX6_caughtAll_5 : decode cX6_caughtAll 5 = .ok (.aload_n 0, 1) := by decide +kernel
theorem dX6_caughtAll_6 : decode cX6_caughtAll 6 = .ok (.getfield 7, 3) := by decide +kernel
theorem dX6_caughtAll_9 : decode cX6_caughtAll 9 = .ok (.if_icmp .ge 18, 3) := by decide +kernel
theorem dX6_caughtAll_12 : decode cX6_caughtAll 12 = .ok (.iload_n 1, 1) := by decide +kernel
theorem dX6_caughtAll_13 : decode cX6_caughtAll 13 = .ok (.aload_n 0, 1) := by decide +kernel
theorem dX6_caughtAll_14 : decode cX6_caughtAll 14 = .ok (.getfield 32, 3) := by decide +kernel
theorem dX6_caughtAll_17 : decode cX6_caughtAll 17 = .ok (.iload_n 2, 1) := by decide +kernel
theorem dX6_caughtAll_18 : decode cX6_caughtAll 18 = .ok (.iaload, 1) := by decide +kernel
theorem dX6_caughtAll_19 : decode cX6_caughtAll 19 = .ok (.iadd, 1) := by decide +kernel
theorem dX6_caughtAll_20 : decode cX6_caughtAll 20 = .ok (.istore_n 1, 1) := by decide +kernel
theorem dX6_caughtAll_21 : decode cX6_caughtAll 21 = .ok (.iinc 2 1, 3) := by decide +kernel
theorem dX6_caughtAll_24 : decode cX6_caughtAll 24 = .ok (.goto (-20), 3) := by decide +kernel
theorem dX6_caughtAll_27 : decode cX6_caughtAll 27 = .ok (.iload_n 1, 1) := by decide +kernel
theorem dX6_caughtAll_28 : decode cX6_caughtAll 28 = .ok (.ireturn, 1) := by decide +kernel
theorem dX6_eatenAll_0 : decode cX6_eatenAll 0 = .ok (.iconst 0, 1) := by decide +kernel
theorem dX6_eatenAll_1 : decode cX6_eatenAll 1 = .ok (.istore_n 1, 1) := by decide +kernel
theorem dX6_eatenAll_2 : decode cX6_eatenAll 2 = .ok (.iconst 0, 1) := by decide +kernel
theorem dX6_eatenAll_3 : decode cX6_eatenAll 3 = .ok (.istore_n 2, 1) := by decide +kernel
theorem dX6_eatenAll_4 : decode cX6_eatenAll 4 = .ok (.iload_n 2, 1) := by decide +kernel
theorem dX6_eatenAll_5 : decode cX6_eatenAll 5 = .ok (.aload_n 0, 1) := by decide +kernel
theorem dX6_eatenAll_6 : decode cX6_eatenAll 6 = .ok (.getfield 7, 3) := by decide +kernel
theorem dX6_eatenAll_9 : decode cX6_eatenAll 9 = .ok (.if_icmp .ge 23, 3) := by decide +kernel
theorem dX6_eatenAll_12 : decode cX6_eatenAll 12 = .ok (.aload_n 0, 1) := by decide +kernel
theorem dX6_eatenAll_13 : decode cX6_eatenAll 13 = .ok (.getfield 35, 3) := by decide +kernel
theorem dX6_eatenAll_16 : decode cX6_eatenAll 16 = .ok (.iload_n 2, 1) := by decide +kernel
theorem dX6_eatenAll_17 : decode cX6_eatenAll 17 = .ok (.iaload, 1) := by decide +kernel
theorem dX6_eatenAll_18 : decode cX6_eatenAll 18 = .ok (.iconst (-1), 1) := by decide +kernel
theorem dX6_eatenAll_19 : decode cX6_eatenAll 19 = .ok (.if_icmp .eq 7, 3) := by decide +kernel
theorem dX6_eatenAll_22 : decode cX6_eatenAll 22 = .ok (.iload_n 1, 1) := by decide +kernel
theorem dX6_eatenAll_23 : decode cX6_eatenAll 23 = .ok (.iconst 1, 1) := by decide +kernel
theorem dX6_eatenAll_24 : decode cX6_eatenAll 24 = .ok (.iadd, 1) := by decide +kernel
theorem dX6_eatenAll_25 : decode cX6_eatenAll 25 = .ok (.istore_n 1, 1) := by decide +kernel
theorem dX6_eatenAll_26 : decode cX6_eatenAll 26 = .ok (.iinc 2 1, 3) := by decide +kernel
theorem dX6_eatenAll_29 : decode cX6_eatenAll 29 = .ok (.goto (-25), 3) := by decide +kernel
theorem dX6_eatenAll_32 : decode cX6_eatenAll 32 = .ok (.iload_n 1, 1) := by decide +kernel
theorem dX6_eatenAll_33 : decode cX6_eatenAll 33 = .ok (.ireturn, 1) := by decide +kernel
set_option maxRecDepth 20000 in
theorem ggX6_thinks_X6_purses : GoodIn wsX6_thinks wsX6_purses := goodIn_r _ [7, 8, 9, 103, 104, 105, 106, 107, 108, 109, 110, 111, 112, 113, 114, 115, 116, 117, 118, 119, 120, 121, 122, 123, 124, 125, 126, 127, 128, 129, 130, 131, 132, 133, 134, 135, 136, 137, 138, 139, 140, 141, 142, 143, 144, 145, 146, 147, 148, 149, 150, 151, 152, 153, 154, 155, 156, 157] rfl (by decide +kernel)
set_option maxRecDepth 20000 in
theorem gX6_thinks_X6_purses : GoodIn wsX6_thinks (wsV RX6 354 RX6 yX6_purses wsX6_purses) := goodIn_app (goodIn_of _ (by decide +kernel)) ggX6_thinks_X6_purses
set_option maxRecDepth 20000 in
theorem ggX6_thinks_X6_caughtAll : GoodIn wsX6_thinks wsX6_caughtAll := goodIn_r _ [13, 8, 14, 103, 104, 105, 106, 107, 108, 109, 110, 111, 112, 113, 114, 115, 116, 117, 118, 119, 120, 121, 122, 123, 124, 125, 126, 127, 128, 129, 130, 131, 132, 133, 134, 135, 136, 137, 138, 139, 140, 141, 142, 143, 144, 145, 146, 147, 148, 149, 150, 151, 152, 153, 154, 155, 156, 157] rfl (by decide +kernel)
set_option maxRecDepth 20000 in
theorem gX6_thinks_X6_caughtAll : GoodIn wsX6_thinks (wsV RX6 357 RX6 yX6_caughtAll wsX6_caughtAll) := goodIn_app (goodIn_of _ (by decide +kernel)) ggX6_thinks_X6_caughtAll
set_option maxRecDepth 20000 in
theorem ggX6_thinks_X6_asides : GoodIn wsX6_thinks wsX6_asides := goodIn_r _ [18, 19, 20, 21, 8, 22, 1, 2, 23, 24, 25, 26, 9, 27, 14, 28, 29, 30, 31, 32, 33, 34, 35, 36, 6, 37, 38, 103, 104, 105, 106, 107, 108, 109, 110, 111, 112, 113, 114, 115, 116, 117, 118, 119, 120, 121, 122, 123, 124, 125, 126, 127, 128, 129, 130, 131, 132, 133, 134, 135, 136, 137, 138, 139, 140, 141, 142, 143, 144, 145, 146, 147, 148, 149, 150, 151, 152, 153, 154, 155, 156, 157] rfl (by decide +kernel)
set_option maxRecDepth 20000 in
theorem gX6_thinks_X6_asides : GoodIn wsX6_thinks (wsV RX6 360 RX6 yX6_asides wsX6_asides) := goodIn_app (goodIn_of _ (by decide +kernel)) ggX6_thinks_X6_asides
set_option maxRecDepth 20000 in
theorem ggX6_thinks_X6_goesBy : GoodIn wsX6_thinks wsX6_goesBy := goodIn_r _ [42, 8, 43, 44, 2, 9, 23, 26, 27, 28, 22, 45, 46, 47, 6, 48, 49, 25, 29, 24, 50, 51, 52, 53, 54, 55, 56, 57, 58, 59, 60, 61, 62, 63, 64, 65, 66, 67, 68, 69, 70, 71, 72, 73, 74, 75, 76, 77, 78, 79, 80, 81, 82, 83, 84, 85, 86, 87, 88, 14, 31, 32, 30, 1, 89, 90, 91, 92, 93, 94, 95, 96, 97, 21, 98, 103, 104, 105, 106, 107, 108, 109, 110, 111, 112, 113, 114, 115, 116, 117, 118, 119, 120, 121, 122, 123, 124, 125, 126, 127, 128, 129, 130, 131, 132, 133, 134, 135, 136, 137, 138, 139, 140, 141, 142, 143, 144, 145, 146, 147, 148, 149, 150, 151, 152, 153, 154, 155, 156, 157] rfl (by decide +kernel)
set_option maxRecDepth 20000 in
theorem gX6_thinks_X6_goesBy : GoodIn wsX6_thinks (wsV RX6 273 RX6 yX6_goesBy wsX6_goesBy) := goodIn_app (goodIn_of _ (by decide +kernel)) ggX6_thinks_X6_goesBy
set_option maxRecDepth 20000 in
theorem ggX6_thinks_X6_eatenAll : GoodIn wsX6_thinks wsX6_eatenAll := goodIn_r _ [102, 8, 28, 103, 104, 105, 106, 107, 108, 109, 110, 111, 112, 113, 114, 115, 116, 117, 118, 119, 120, 121, 122, 123, 124, 125, 126, 127, 128, 129, 130, 131, 132, 133, 134, 135, 136, 137, 138, 139, 140, 141, 142, 143, 144, 145, 146, 147, 148, 149, 150, 151, 152, 153, 154, 155, 156, 157] rfl (by decide +kernel)
set_option maxRecDepth 20000 in
theorem gX6_thinks_X6_eatenAll : GoodIn wsX6_thinks (wsV RX6 364 RX6 yX6_eatenAll wsX6_eatenAll) := goodIn_app (goodIn_of _ (by decide +kernel)) ggX6_thinks_X6_eatenAll
theorem dX6_thinks_0 : decode cX6_thinks 0 = .ok (.iload_n 3, 1) := by decide +kernel
theorem dX6_thinks_1 : decode cX6_thinks 1 = .ok (.ifCond .ne 10, 3) := by decide +kernel
theorem dX6_thinks_4 : decode cX6_thinks 4 = .ok (.aload_n 0, 1) := by decide +kernel
theorem dX6_thinks_5 : decode cX6_thinks 5 = .ok (.invokevirtual 354, 3) := by decide +kernel
theorem dX6_thinks_8 : decode cX6_thinks 8 = .ok (.goto 28, 3) := by decide +kernel
theorem dX6_thinks_11 : decode cX6_thinks 11 = .ok (.iload_n 3, 1) := by decide +kernel
theorem dX6_thinks_12 : decode cX6_thinks 12 = .ok (.iconst 1, 1) := by decide +kernel
theorem dX6_thinks_13 : decode cX6_thinks 13 = .ok (.if_icmp .ne 10, 3) := by decide +kernel
theorem dX6_thinks_16 : decode cX6_thinks 16 = .ok (.aload_n 0, 1) := by decide +kernel
theorem dX6_thinks_17 : decode cX6_thinks 17 = .ok (.getfield 263, 3) := by decide +kernel
theorem dX6_thinks_20 : decode cX6_thinks 20 = .ok (.goto 16, 3) := by decide +kernel
theorem dX6_thinks_23 : decode cX6_thinks 23 = .ok (.iload_n 3, 1) := by decide +kernel
theorem dX6_thinks_24 : decode cX6_thinks 24 = .ok (.iconst 2, 1) := by decide +kernel
theorem dX6_thinks_25 : decode cX6_thinks 25 = .ok (.if_icmp .ne 10, 3) := by decide +kernel
theorem dX6_thinks_28 : decode cX6_thinks 28 = .ok (.aload_n 0, 1) := by decide +kernel
theorem dX6_thinks_29 : decode cX6_thinks 29 = .ok (.invokevirtual 357, 3) := by decide +kernel
theorem dX6_thinks_32 : decode cX6_thinks 32 = .ok (.goto 4, 3) := by decide +kernel
theorem dX6_thinks_35 : decode cX6_thinks 35 = .ok (.iconst 0, 1) := by decide +kernel
theorem dX6_thinks_36 : decode cX6_thinks 36 = .ok (.istore 4, 2) := by decide +kernel
theorem dX6_thinks_38 : decode cX6_thinks 38 = .ok (.aload_n 0, 1) := by decide +kernel
theorem dX6_thinks_39 : decode cX6_thinks 39 = .ok (.iconst 1, 1) := by decide +kernel
theorem dX6_thinks_40 : decode cX6_thinks 40 = .ok (.invokevirtual 360, 3) := by decide +kernel
theorem dX6_thinks_43 : decode cX6_thinks 43 = .ok (.aload_n 0, 1) := by decide +kernel
theorem dX6_thinks_44 : decode cX6_thinks 44 = .ok (.getfield 53, 3) := by decide +kernel
theorem dX6_thinks_47 : decode cX6_thinks 47 = .ok (.bipush 9, 2) := by decide +kernel
theorem dX6_thinks_49 : decode cX6_thinks 49 = .ok (.iload_n 2, 1) := by decide +kernel
theorem dX6_thinks_50 : decode cX6_thinks 50 = .ok (.iastore, 1) := by decide +kernel
theorem dX6_thinks_51 : decode cX6_thinks 51 = .ok (.iconst 0, 1) := by decide +kernel
theorem dX6_thinks_52 : decode cX6_thinks 52 = .ok (.istore 5, 2) := by decide +kernel
theorem dX6_thinks_54 : decode cX6_thinks 54 = .ok (.iload 5, 2) := by decide +kernel
theorem dX6_thinks_56 : decode cX6_thinks 56 = .ok (.iload_n 1, 1) := by decide +kernel
theorem dX6_thinks_57 : decode cX6_thinks 57 = .ok (.if_icmp .ge 13, 3) := by decide +kernel
theorem dX6_thinks_60 : decode cX6_thinks 60 = .ok (.aload_n 0, 1) := by decide +kernel
theorem dX6_thinks_61 : decode cX6_thinks 61 = .ok (.invokevirtual 273, 3) := by decide +kernel
theorem dX6_thinks_64 : decode cX6_thinks 64 = .ok (.iinc 5 1, 3) := by decide +kernel
theorem dX6_thinks_67 : decode cX6_thinks 67 = .ok (.goto (-13), 3) := by decide +kernel
theorem dX6_thinks_70 : decode cX6_thinks 70 = .ok (.iload_n 3, 1) := by decide +kernel
theorem dX6_thinks_71 : decode cX6_thinks 71 = .ok (.ifCond .ne 10, 3) := by decide +kernel
theorem dX6_thinks_74 : decode cX6_thinks 74 = .ok (.aload_n 0, 1) := by decide +kernel
theorem dX6_thinks_75 : decode cX6_thinks 75 = .ok (.invokevirtual 354, 3) := by decide +kernel
theorem dX6_thinks_78 : decode cX6_thinks 78 = .ok (.goto 31, 3) := by decide +kernel
theorem dX6_thinks_81 : decode cX6_thinks 81 = .ok (.iload_n 3, 1) := by decide +kernel
theorem dX6_thinks_82 : decode cX6_thinks 82 = .ok (.iconst 1, 1) := by decide +kernel
theorem dX6_thinks_83 : decode cX6_thinks 83 = .ok (.if_icmp .ne 10, 3) := by decide +kernel
theorem dX6_thinks_86 : decode cX6_thinks 86 = .ok (.aload_n 0, 1) := by decide +kernel
theorem dX6_thinks_87 : decode cX6_thinks 87 = .ok (.getfield 263, 3) := by decide +kernel
theorem dX6_thinks_90 : decode cX6_thinks 90 = .ok (.goto 19, 3) := by decide +kernel
theorem dX6_thinks_93 : decode cX6_thinks 93 = .ok (.iload_n 3, 1) := by decide +kernel
theorem dX6_thinks_94 : decode cX6_thinks 94 = .ok (.iconst 2, 1) := by decide +kernel
theorem dX6_thinks_95 : decode cX6_thinks 95 = .ok (.if_icmp .ne 10, 3) := by decide +kernel
theorem dX6_thinks_98 : decode cX6_thinks 98 = .ok (.aload_n 0, 1) := by decide +kernel
theorem dX6_thinks_99 : decode cX6_thinks 99 = .ok (.invokevirtual 357, 3) := by decide +kernel
theorem dX6_thinks_102 : decode cX6_thinks 102 = .ok (.goto 7, 3) := by decide +kernel
theorem dX6_thinks_105 : decode cX6_thinks 105 = .ok (.aload_n 0, 1) := by decide +kernel
theorem dX6_thinks_106 : decode cX6_thinks 106 = .ok (.invokevirtual 364, 3) := by decide +kernel
theorem dX6_thinks_109 : decode cX6_thinks 109 = .ok (.istore 5, 2) := by decide +kernel
theorem dX6_thinks_111 : decode cX6_thinks 111 = .ok (.aload_n 0, 1) := by decide +kernel
theorem dX6_thinks_112 : decode cX6_thinks 112 = .ok (.iconst 0, 1) := by decide +kernel
theorem dX6_thinks_113 : decode cX6_thinks 113 = .ok (.invokevirtual 360, 3) := by decide +kernel
theorem dX6_thinks_116 : decode cX6_thinks 116 = .ok (.iload 5, 2) := by decide +kernel
theorem dX6_thinks_118 : decode cX6_thinks 118 = .ok (.iload 4, 2) := by decide +kernel
theorem dX6_thinks_120 : decode cX6_thinks 120 = .ok (.isub, 1) := by decide +kernel
theorem dX6_thinks_121 : decode cX6_thinks 121 = .ok (.ireturn, 1) := by decide +kernel
set_option maxRecDepth 20000 in
theorem ggX6_feet_X6_isIn : GoodIn wsX6_feet wsX6_isIn := goodIn_r _ [6] rfl (by decide +kernel)
set_option maxRecDepth 20000 in
theorem gX6_feet_X6_isIn : GoodIn wsX6_feet (wsV RX6 129 RX6 yX6_isIn wsX6_isIn) := goodIn_app (goodIn_of _ (by decide +kernel)) ggX6_feet_X6_isIn
set_option maxRecDepth 20000 in
theorem ggX6_feet_X6_thinks : GoodIn wsX6_feet wsX6_thinks := goodIn_r _ [10, 11, 12, 13, 14, 15, 5, 16, 17, 18, 19, 20, 21, 22, 23, 24, 25, 26, 27, 28, 29, 30, 31, 32, 33, 34, 35, 36, 37, 38, 39, 40, 41, 42, 43, 44, 45, 46, 47, 48, 49, 50, 51, 52, 53, 54, 55, 56, 57, 58, 59, 60, 61, 62, 63, 64, 65, 66, 67, 68, 69, 70, 71, 72, 73, 74, 75, 76, 77, 78, 79, 80, 81, 82, 83, 84, 85, 86, 87, 88, 89, 90, 91, 92, 93, 94, 95, 96, 97, 98, 99, 100, 101, 102, 103, 104, 105, 106, 107, 108, 109, 110, 111, 112, 113, 114, 115, 116, 117, 118, 119, 120, 121, 122, 123, 124, 125, 126, 127, 128, 129, 130, 131, 132, 133, 134, 135, 136, 137, 138, 139, 140, 141, 142, 143, 144, 145, 146, 147, 148, 149, 150, 151, 152, 153, 154, 155, 156, 157, 158, 159, 160, 161, 162, 163, 164, 165, 166] rfl (by decide +kernel)
set_option maxRecDepth 20000 in
theorem gX6_feet_X6_thinks : GoodIn wsX6_feet (wsV RX6 367 RX6 yX6_thinks wsX6_thinks) := goodIn_app (goodIn_of _ (by decide +kernel)) ggX6_feet_X6_thinks
theorem dX6_feet_0 : decode cX6_feet 0 = .ok (.aload_n 0, 1) := by decide +kernel
theorem dX6_feet_1 : decode cX6_feet 1 = .ok (.iconst 0, 1) := by decide +kernel
theorem dX6_feet_2 : decode cX6_feet 2 = .ok (.putfield 121, 3) := by decide +kernel
theorem dX6_feet_5 : decode cX6_feet 5 = .ok (.aload_n 0, 1) := by decide +kernel
theorem dX6_feet_6 : decode cX6_feet 6 = .ok (.iload_n 1, 1) := by decide +kernel
theorem dX6_feet_7 : decode cX6_feet 7 = .ok (.iconst 1, 1) := by decide +kernel
theorem dX6_feet_8 : decode cX6_feet 8 = .ok (.bipush 60, 2) := by decide +kernel
theorem dX6_feet_10 : decode cX6_feet 10 = .ok (.invokevirtual 129, 3) := by decide +kernel
theorem dX6_feet_13 : decode cX6_feet 13 = .ok (.ifCond .ne 5, 3) := by decide +kernel
theorem dX6_feet_16 : decode cX6_feet 16 = .ok (.iconst (-1), 1) := by decide +kernel
theorem dX6_feet_17 : decode cX6_feet 17 = .ok (.ireturn, 1) := by decide +kernel
theorem dX6_feet_18 : decode cX6_feet 18 = .ok (.iconst 0, 1) := by decide +kernel
theorem dX6_feet_19 : decode cX6_feet 19 = .ok (.istore_n 2, 1) := by decide +kernel
theorem dX6_feet_20 : decode cX6_feet 20 = .ok (.aload_n 0, 1) := by decide +kernel
theorem dX6_feet_21 : decode cX6_feet 21 = .ok (.iload_n 1, 1) := by decide +kernel
theorem dX6_feet_22 : decode cX6_feet 22 = .ok (.iconst 0, 1) := by decide +kernel
theorem dX6_feet_23 : decode cX6_feet 23 = .ok (.iconst 0, 1) := by decide +kernel
theorem dX6_feet_24 : decode cX6_feet 24 = .ok (.invokevirtual 367, 3) := by decide +kernel
theorem dX6_feet_27 : decode cX6_feet 27 = .ok (.istore_n 3, 1) := by decide +kernel
theorem dX6_feet_28 : decode cX6_feet 28 = .ok (.iconst 1, 1) := by decide +kernel
theorem dX6_feet_29 : decode cX6_feet 29 = .ok (.istore 4, 2) := by decide +kernel
theorem dX6_feet_31 : decode cX6_feet 31 = .ok (.iload 4, 2) := by decide +kernel
theorem dX6_feet_33 : decode cX6_feet 33 = .ok (.iconst 5, 1) := by decide +kernel
theorem dX6_feet_34 : decode cX6_feet 34 = .ok (.if_icmp .gt 34, 3) := by decide +kernel
theorem dX6_feet_37 : decode cX6_feet 37 = .ok (.aload_n 0, 1) := by decide +kernel
theorem dX6_feet_38 : decode cX6_feet 38 = .ok (.iload_n 1, 1) := by decide +kernel
theorem dX6_feet_39 : decode cX6_feet 39 = .ok (.iload 4, 2) := by decide +kernel
theorem dX6_feet_41 : decode cX6_feet 41 = .ok (.iconst 0, 1) := by decide +kernel
theorem dX6_feet_42 : decode cX6_feet 42 = .ok (.invokevirtual 367, 3) := by decide +kernel
theorem dX6_feet_45 : decode cX6_feet 45 = .ok (.istore 5, 2) := by decide +kernel
theorem dX6_feet_47 : decode cX6_feet 47 = .ok (.iload 5, 2) := by decide +kernel
theorem dX6_feet_49 : decode cX6_feet 49 = .ok (.iload_n 3, 1) := by decide +kernel
theorem dX6_feet_50 : decode cX6_feet 50 = .ok (.if_icmp .gt 6, 3) := by decide +kernel
theorem dX6_feet_53 : decode cX6_feet 53 = .ok (.goto 9, 3) := by decide +kernel
theorem dX6_feet_56 : decode cX6_feet 56 = .ok (.iload 4, 2) := by decide +kernel
theorem dX6_feet_58 : decode cX6_feet 58 = .ok (.istore_n 2, 1) := by decide +kernel
theorem dX6_feet_59 : decode cX6_feet 59 = .ok (.iload 5, 2) := by decide +kernel
theorem dX6_feet_61 : decode cX6_feet 61 = .ok (.istore_n 3, 1) := by decide +kernel
theorem dX6_feet_62 : decode cX6_feet 62 = .ok (.iinc 4 1, 3) := by decide +kernel
theorem dX6_feet_65 : decode cX6_feet 65 = .ok (.goto (-34), 3) := by decide +kernel
theorem dX6_feet_68 : decode cX6_feet 68 = .ok (.iload_n 2, 1) := by decide +kernel
theorem dX6_feet_69 : decode cX6_feet 69 = .ok (.ireturn, 1) := by decide +kernel
set_option maxRecDepth 20000 in
theorem ggX6_thought_X6_isIn : GoodIn wsX6_thought wsX6_isIn := goodIn_r _ [8] rfl (by decide +kernel)
set_option maxRecDepth 20000 in
theorem gX6_thought_X6_isIn : GoodIn wsX6_thought (wsV RX6 129 RX6 yX6_isIn wsX6_isIn) := goodIn_app (goodIn_of _ (by decide +kernel)) ggX6_thought_X6_isIn
set_option maxRecDepth 20000 in
theorem ggX6_thought_X6_thinks : GoodIn wsX6_thought wsX6_thinks := goodIn_r _ [12, 13, 2, 14, 15, 16, 7, 17, 18, 19, 20, 21, 22, 23, 24, 25, 26, 27, 28, 29, 30, 31, 32, 33, 34, 35, 36, 37, 38, 39, 40, 41, 42, 43, 44, 45, 46, 47, 48, 49, 50, 51, 52, 53, 54, 55, 56, 57, 58, 59, 60, 61, 62, 63, 64, 65, 66, 67, 68, 69, 70, 71, 72, 73, 74, 75, 76, 77, 78, 79, 80, 81, 82, 83, 84, 85, 86, 87, 88, 89, 90, 91, 92, 93, 94, 95, 96, 97, 98, 99, 100, 101, 102, 103, 104, 105, 106, 107, 108, 109, 110, 111, 112, 113, 114, 115, 116, 117, 118, 119, 120, 121, 122, 123, 124, 125, 126, 127, 128, 129, 130, 131, 132, 133, 134, 135, 136, 137, 138, 139, 140, 141, 142, 143, 144, 145, 146, 147, 148, 149, 150, 151, 152, 153, 154, 155, 156, 157, 158, 159, 160, 161, 162, 163, 164, 165, 166, 167] rfl (by decide +kernel)
set_option maxRecDepth 20000 in
theorem gX6_thought_X6_thinks : GoodIn wsX6_thought (wsV RX6 367 RX6 yX6_thinks wsX6_thinks) := goodIn_app (goodIn_of _ (by decide +kernel)) ggX6_thought_X6_thinks
theorem dX6_thought_0 : decode cX6_thought 0 = .ok (.aload_n 0, 1) := by decide +kernel
theorem dX6_thought_1 : decode cX6_thought 1 = .ok (.iconst 0, 1) := by decide +kernel
theorem dX6_thought_2 : decode cX6_thought 2 = .ok (.putfield 121, 3) := by decide +kernel
theorem dX6_thought_5 : decode cX6_thought 5 = .ok (.aload_n 0, 1) := by decide +kernel
theorem dX6_thought_6 : decode cX6_thought 6 = .ok (.iload_n 1, 1) := by decide +kernel
theorem dX6_thought_7 : decode cX6_thought 7 = .ok (.iconst 1, 1) := by decide +kernel
theorem dX6_thought_8 : decode cX6_thought 8 = .ok (.bipush 60, 2) := by decide +kernel
theorem dX6_thought_10 : decode cX6_thought 10 = .ok (.invokevirtual 129, 3) := by decide +kernel
theorem dX6_thought_13 : decode cX6_thought 13 = .ok (.ifCond .eq 29, 3) := by decide +kernel
theorem dX6_thought_16 : decode cX6_thought 16 = .ok (.aload_n 0, 1) := by decide +kernel
theorem dX6_thought_17 : decode cX6_thought 17 = .ok (.iload_n 2, 1) := by decide +kernel
theorem dX6_thought_18 : decode cX6_thought 18 = .ok (.iconst 0, 1) := by decide +kernel
theorem dX6_thought_19 : decode cX6_thought 19 = .ok (.iconst 3, 1) := by decide +kernel
theorem dX6_thought_20 : decode cX6_thought 20 = .ok (.invokevirtual 129, 3) := by decide +kernel
theorem dX6_thought_23 : decode cX6_thought 23 = .ok (.ifCond .eq 19, 3) := by decide +kernel
theorem dX6_thought_26 : decode cX6_thought 26 = .ok (.aload_n 0, 1) := by decide +kernel
theorem dX6_thought_27 : decode cX6_thought 27 = .ok (.iload_n 1, 1) := by decide +kernel
theorem dX6_thought_28 : decode cX6_thought 28 = .ok (.aload_n 0, 1) := by decide +kernel
theorem dX6_thought_29 : decode cX6_thought 29 = .ok (.getfield 53, 3) := by decide +kernel
theorem dX6_thought_32 : decode cX6_thought 32 = .ok (.bipush 9, 2) := by decide +kernel
theorem dX6_thought_34 : decode cX6_thought 34 = .ok (.iaload, 1) := by decide +kernel
theorem dX6_thought_35 : decode cX6_thought 35 = .ok (.iload_n 2, 1) := by decide +kernel
theorem dX6_thought_36 : decode cX6_thought 36 = .ok (.invokevirtual 367, 3) := by decide +kernel
theorem dX6_thought_39 : decode cX6_thought 39 = .ok (.goto 6, 3) := by decide +kernel
theorem dX6_thought_42 : decode cX6_thought 42 = .ok (.ldc_w 276, 3) := by decide +kernel
theorem dX6_thought_45 : decode cX6_thought 45 = .ok (.ireturn, 1) := by decide +kernel
theorem dX6_keptText_0 : decode cX6_keptText 0 = .ok (.aload_n 0, 1) := by decide +kernel
theorem dX6_keptText_1 : decode cX6_keptText 1 = .ok (.aload_n 0, 1) := by decide +kernel
theorem dX6_keptText_2 : decode cX6_keptText 2 = .ok (.getfield 370, 3) := by decide +kernel
theorem dX6_keptText_5 : decode cX6_keptText 5 = .ok (.iconst 1, 1) := by decide +kernel
theorem dX6_keptText_6 : decode cX6_keptText 6 = .ok (.iadd, 1) := by decide +kernel
theorem dX6_keptText_7 : decode cX6_keptText 7 = .ok (.putfield 370, 3) := by decide +kernel
theorem dX6_keptText_10 : decode cX6_keptText 10 = .ok (.aload_n 0, 1) := by decide +kernel
theorem dX6_keptText_11 : decode cX6_keptText 11 = .ok (.getfield 347, 3) := by decide +kernel
theorem dX6_keptText_14 : decode cX6_keptText 14 = .ok (.ifCond .ne 15, 3) := by decide +kernel
theorem dX6_keptText_17 : decode cX6_keptText 17 = .ok (.aload_n 0, 1) := by decide +kernel
theorem dX6_keptText_18 : decode cX6_keptText 18 = .ok (.getfield 118, 3) := by decide +kernel
theorem dX6_keptText_21 : decode cX6_keptText 21 = .ok (.aload_n 0, 1) := by decide +kernel
theorem dX6_keptText_22 : decode cX6_keptText 22 = .ok (.getfield 370, 3) := by decide +kernel
theorem dX6_keptText_25 : decode cX6_keptText 25 = .ok (.iconst 1, 1) := by decide +kernel
theorem dX6_keptText_26 : decode cX6_keptText 26 = .ok (.isub, 1) := by decide +kernel
theorem dX6_keptText_27 : decode cX6_keptText 27 = .ok (.iaload, 1) := by decide +kernel
theorem dX6_keptText_28 : decode cX6_keptText 28 = .ok (.ireturn, 1) := by decide +kernel
theorem dX6_keptText_29 : decode cX6_keptText 29 = .ok (.aload_n 0, 1) := by decide +kernel
theorem dX6_keptText_30 : decode cX6_keptText 30 = .ok (.getfield 118, 3) := by decide +kernel
theorem dX6_keptText_33 : decode cX6_keptText 33 = .ok (.aload_n 0, 1) := by decide +kernel
theorem dX6_keptText_34 : decode cX6_keptText 34 = .ok (.getfield 370, 3) := by decide +kernel
theorem dX6_keptText_37 : decode cX6_keptText 37 = .ok (.iconst 1, 1) := by decide +kernel
theorem dX6_keptText_38 : decode cX6_keptText 38 = .ok (.isub, 1) := by decide +kernel
theorem dX6_keptText_39 : decode cX6_keptText 39 = .ok (.iload_n 1, 1) := by decide +kernel
theorem dX6_keptText_40 : decode cX6_keptText 40 = .ok (.iastore, 1) := by decide +kernel
theorem dX6_keptText_41 : decode cX6_keptText 41 = .ok (.iload_n 1, 1) := by decide +kernel
theorem dX6_keptText_42 : decode cX6_keptText 42 = .ok (.ireturn, 1) := by decide +kernel
set_option maxRecDepth 20000 in
theorem ggX6_image_X6_asides : GoodIn wsX6_image wsX6_asides := goodIn_r _ [16, 17, 18, 19, 20, 21, 22, 23, 24, 25, 26, 27, 28, 29, 30, 31, 32, 33, 34, 35, 36, 37, 38, 39, 15, 40, 3, 46, 47, 48, 49, 50, 51, 52, 53, 54, 55, 56, 57, 58, 59, 60, 61, 62, 63, 64, 65, 66, 67, 68, 69, 70, 71, 72, 73, 74, 75, 76, 77, 78, 79, 80, 81, 82, 83, 84, 85, 86, 87, 88, 89, 90, 91, 92, 93, 94, 95, 96, 97, 98, 99, 100] rfl (by decide +kernel)
set_option maxRecDepth 20000 in
theorem gX6_image_X6_asides : GoodIn wsX6_image (wsV RX6 360 RX6 yX6_asides wsX6_asides) := goodIn_app (goodIn_of _ (by decide +kernel)) ggX6_image_X6_asides
set_option maxRecDepth 20000 in
theorem ggX6_image_X6_keptText : GoodIn wsX6_image wsX6_keptText := goodIn_r _ [44, 5, 17, 45, 46, 47, 48, 49, 50, 51, 52, 53, 54, 55, 56, 57, 58, 59, 60, 61, 62, 63, 64, 65, 66, 67, 68, 69, 70, 71, 72, 73, 74, 75, 76, 77, 78, 79, 80, 81, 82, 83, 84, 85, 86, 87, 88, 89, 90, 91, 92, 93, 94, 95, 96, 97, 98, 99, 100] rfl (by decide +kernel)
set_option maxRecDepth 20000 in
theorem gX6_image_X6_keptText : GoodIn wsX6_image (wsV RX6 376 RX6 yX6_keptText wsX6_keptText) := goodIn_app (goodIn_of _ (by decide +kernel)) ggX6_image_X6_keptText
theorem dX6_image_0 : decode cX6_image 0 = .ok (.aload_n 0, 1) := by decide +kernel
theorem dX6_image_1 : decode cX6_image 1 = .ok (.iconst 0, 1) := by decide +kernel
theorem dX6_image_2 : decode cX6_image 2 = .ok (.putfield 121, 3) := by decide +kernel
theorem dX6_image_5 : decode cX6_image 5 = .ok (.iload_n 1, 1) := by decide +kernel
theorem dX6_image_6 : decode cX6_image 6 = .ok (.ifCond .ne 12, 3) := by decide +kernel
theorem dX6_image_9 : decode cX6_image 9 = .ok (.aload_n 0, 1) := by decide +kernel
theorem dX6_image_10 : decode cX6_image 10 = .ok (.getfield 373, 3) := by decide +kernel
theorem dX6_image_13 : decode cX6_image 13 = .ok (.ifCond .ne 5, 3) := by decide +kernel
theorem dX6_image_16 : decode cX6_image 16 = .ok (.iconst 0, 1) := by decide +kernel
theorem dX6_image_17 : decode cX6_image 17 = .ok (.ireturn, 1) := by decide +kernel
theorem dX6_image_18 : decode cX6_image 18 = .ok (.aload_n 0, 1) := by decide +kernel
theorem dX6_image_19 : decode cX6_image 19 = .ok (.iconst 1, 1) := by decide +kernel
theorem dX6_image_20 : decode cX6_image 20 = .ok (.putfield 373, 3) := by decide +kernel
theorem dX6_image_23 : decode cX6_image 23 = .ok (.iload_n 1, 1) := by decide +kernel
theorem dX6_image_24 : decode cX6_image 24 = .ok (.ifCond .ne 30, 3) := by decide +kernel
theorem dX6_image_27 : decode cX6_image 27 = .ok (.iconst 0, 1) := by decide +kernel
theorem dX6_image_28 : decode cX6_image 28 = .ok (.istore_n 2, 1) := by decide +kernel
theorem dX6_image_29 : decode cX6_image 29 = .ok (.iload_n 2, 1) := by decide +kernel
theorem dX6_image_30 : decode cX6_image 30 = .ok (.sipush 160, 3) := by decide +kernel
theorem dX6_image_33 : decode cX6_image 33 = .ok (.if_icmp .ge 21, 3) := by decide +kernel
theorem dX6_image_36 : decode cX6_image 36 = .ok (.aload_n 0, 1) := by decide +kernel
theorem dX6_image_37 : decode cX6_image 37 = .ok (.getfield 112, 3) := by decide +kernel
theorem dX6_image_40 : decode cX6_image 40 = .ok (.iload_n 2, 1) := by decide +kernel
theorem dX6_image_41 : decode cX6_image 41 = .ok (.aload_n 0, 1) := by decide +kernel
theorem dX6_image_42 : decode cX6_image 42 = .ok (.getfield 115, 3) := by decide +kernel
theorem dX6_image_45 : decode cX6_image 45 = .ok (.iload_n 2, 1) := by decide +kernel
theorem dX6_image_46 : decode cX6_image 46 = .ok (.iaload, 1) := by decide +kernel
theorem dX6_image_47 : decode cX6_image 47 = .ok (.iastore, 1) := by decide +kernel
theorem dX6_image_48 : decode cX6_image 48 = .ok (.iinc 2 1, 3) := by decide +kernel
theorem dX6_image_51 : decode cX6_image 51 = .ok (.goto (-22), 3) := by decide +kernel
theorem dX6_image_54 : decode cX6_image 54 = .ok (.aload_n 0, 1) := by decide +kernel
theorem dX6_image_55 : decode cX6_image 55 = .ok (.iload_n 1, 1) := by decide +kernel
theorem dX6_image_56 : decode cX6_image 56 = .ok (.invokevirtual 360, 3) := by decide +kernel
theorem dX6_image_59 : decode cX6_image 59 = .ok (.iload_n 1, 1) := by decide +kernel
theorem dX6_image_60 : decode cX6_image 60 = .ok (.ifCond .eq 30, 3) := by decide +kernel
theorem dX6_image_63 : decode cX6_image 63 = .ok (.iconst 0, 1) := by decide +kernel
theorem dX6_image_64 : decode cX6_image 64 = .ok (.istore_n 2, 1) := by decide +kernel
theorem dX6_image_65 : decode cX6_image 65 = .ok (.iload_n 2, 1) := by decide +kernel
theorem dX6_image_66 : decode cX6_image 66 = .ok (.sipush 160, 3) := by decide +kernel
theorem dX6_image_69 : decode cX6_image 69 = .ok (.if_icmp .ge 21, 3) := by decide +kernel
theorem dX6_image_72 : decode cX6_image 72 = .ok (.aload_n 0, 1) := by decide +kernel
theorem dX6_image_73 : decode cX6_image 73 = .ok (.getfield 115, 3) := by decide +kernel
theorem dX6_image_76 : decode cX6_image 76 = .ok (.iload_n 2, 1) := by decide +kernel
theorem dX6_image_77 : decode cX6_image 77 = .ok (.aload_n 0, 1) := by decide +kernel
theorem dX6_image_78 : decode cX6_image 78 = .ok (.getfield 112, 3) := by decide +kernel
theorem dX6_image_81 : decode cX6_image 81 = .ok (.iload_n 2, 1) := by decide +kernel
theorem dX6_image_82 : decode cX6_image 82 = .ok (.iaload, 1) := by decide +kernel
theorem dX6_image_83 : decode cX6_image 83 = .ok (.iastore, 1) := by decide +kernel
theorem dX6_image_84 : decode cX6_image 84 = .ok (.iinc 2 1, 3) := by decide +kernel
theorem dX6_image_87 : decode cX6_image 87 = .ok (.goto (-22), 3) := by decide +kernel
theorem dX6_image_90 : decode cX6_image 90 = .ok (.aload_n 0, 1) := by decide +kernel
theorem dX6_image_91 : decode cX6_image 91 = .ok (.iconst 0, 1) := by decide +kernel
theorem dX6_image_92 : decode cX6_image 92 = .ok (.putfield 370, 3) := by decide +kernel
theorem dX6_image_95 : decode cX6_image 95 = .ok (.iconst 0, 1) := by decide +kernel
theorem dX6_image_96 : decode cX6_image 96 = .ok (.istore_n 2, 1) := by decide +kernel
theorem dX6_image_97 : decode cX6_image 97 = .ok (.iload_n 2, 1) := by decide +kernel
theorem dX6_image_98 : decode cX6_image 98 = .ok (.iconst 4, 1) := by decide +kernel
theorem dX6_image_99 : decode cX6_image 99 = .ok (.if_icmp .ge 25, 3) := by decide +kernel
theorem dX6_image_102 : decode cX6_image 102 = .ok (.aload_n 0, 1) := by decide +kernel
theorem dX6_image_103 : decode cX6_image 103 = .ok (.getfield 62, 3) := by decide +kernel
theorem dX6_image_106 : decode cX6_image 106 = .ok (.iload_n 2, 1) := by decide +kernel
theorem dX6_image_107 : decode cX6_image 107 = .ok (.aload_n 0, 1) := by decide +kernel
theorem dX6_image_108 : decode cX6_image 108 = .ok (.aload_n 0, 1) := by decide +kernel
theorem dX6_image_109 : decode cX6_image 109 = .ok (.getfield 62, 3) := by decide +kernel
theorem dX6_image_112 : decode cX6_image 112 = .ok (.iload_n 2, 1) := by decide +kernel
theorem dX6_image_113 : decode cX6_image 113 = .ok (.iaload, 1) := by decide +kernel
theorem dX6_image_114 : decode cX6_image 114 = .ok (.invokevirtual 376, 3) := by decide +kernel
theorem dX6_image_117 : decode cX6_image 117 = .ok (.iastore, 1) := by decide +kernel
theorem dX6_image_118 : decode cX6_image 118 = .ok (.iinc 2 1, 3) := by decide +kernel
theorem dX6_image_121 : decode cX6_image 121 = .ok (.goto (-24), 3) := by decide +kernel
theorem dX6_image_124 : decode cX6_image 124 = .ok (.iconst 0, 1) := by decide +kernel
theorem dX6_image_125 : decode cX6_image 125 = .ok (.istore_n 2, 1) := by decide +kernel
theorem dX6_image_126 : decode cX6_image 126 = .ok (.iload_n 2, 1) := by decide +kernel
theorem dX6_image_127 : decode cX6_image 127 = .ok (.bipush 64, 2) := by decide +kernel
theorem dX6_image_129 : decode cX6_image 129 = .ok (.if_icmp .ge 57, 3) := by decide +kernel
theorem dX6_image_132 : decode cX6_image 132 = .ok (.aload_n 0, 1) := by decide +kernel
theorem dX6_image_133 : decode cX6_image 133 = .ok (.getfield 65, 3) := by decide +kernel
theorem dX6_image_136 : decode cX6_image 136 = .ok (.iload_n 2, 1) := by decide +kernel
theorem dX6_image_137 : decode cX6_image 137 = .ok (.aload_n 0, 1) := by decide +kernel
theorem dX6_image_138 : decode cX6_image 138 = .ok (.aload_n 0, 1) := by decide +kernel
theorem dX6_image_139 : decode cX6_image 139 = .ok (.getfield 65, 3) := by decide +kernel
theorem dX6_image_142 : decode cX6_image 142 = .ok (.iload_n 2, 1) := by decide +kernel
theorem dX6_image_143 : decode cX6_image 143 = .ok (.iaload, 1) := by decide +kernel
theorem dX6_image_144 : decode cX6_image 144 = .ok (.invokevirtual 376, 3) := by decide +kernel
theorem dX6_image_147 : decode cX6_image 147 = .ok (.iastore, 1) := by decide +kernel
theorem dX6_image_148 : decode cX6_image 148 = .ok (.aload_n 0, 1) := by decide +kernel
theorem dX6_image_149 : decode cX6_image 149 = .ok (.getfield 68, 3) := by decide +kernel
theorem dX6_image_152 : decode cX6_image 152 = .ok (.iload_n 2, 1) := by decide +kernel
theorem dX6_image_153 : decode cX6_image 153 = .ok (.aload_n 0, 1) := by decide +kernel
theorem dX6_image_154 : decode cX6_image 154 = .ok (.aload_n 0, 1) := by decide +kernel
theorem dX6_image_155 : decode cX6_image 155 = .ok (.getfield 68, 3) := by decide +kernel
theorem dX6_image_158 : decode cX6_image 158 = .ok (.iload_n 2, 1) := by decide +kernel
theorem dX6_image_159 : decode cX6_image 159 = .ok (.iaload, 1) := by decide +kernel
theorem dX6_image_160 : decode cX6_image 160 = .ok (.invokevirtual 376, 3) := by decide +kernel
theorem dX6_image_163 : decode cX6_image 163 = .ok (.iastore, 1) := by decide +kernel
theorem dX6_image_164 : decode cX6_image 164 = .ok (.aload_n 0, 1) := by decide +kernel
theorem dX6_image_165 : decode cX6_image 165 = .ok (.getfield 71, 3) := by decide +kernel
theorem dX6_image_168 : decode cX6_image 168 = .ok (.iload_n 2, 1) := by decide +kernel
theorem dX6_image_169 : decode cX6_image 169 = .ok (.aload_n 0, 1) := by decide +kernel
theorem dX6_image_170 : decode cX6_image 170 = .ok (.aload_n 0, 1) := by decide +kernel
theorem dX6_image_171 : decode cX6_image 171 = .ok (.getfield 71, 3) := by decide +kernel
theorem dX6_image_174 : decode cX6_image 174 = .ok (.iload_n 2, 1) := by decide +kernel
theorem dX6_image_175 : decode cX6_image 175 = .ok (.iaload, 1) := by decide +kernel
theorem dX6_image_176 : decode cX6_image 176 = .ok (.invokevirtual 376, 3) := by decide +kernel
theorem dX6_image_179 : decode cX6_image 179 = .ok (.iastore, 1) := by decide +kernel
theorem dX6_image_180 : decode cX6_image 180 = .ok (.iinc 2 1, 3) := by decide +kernel
theorem dX6_image_183 : decode cX6_image 183 = .ok (.goto (-57), 3) := by decide +kernel
theorem dX6_image_186 : decode cX6_image 186 = .ok (.iconst 0, 1) := by decide +kernel
theorem dX6_image_187 : decode cX6_image 187 = .ok (.istore_n 2, 1) := by decide +kernel
theorem dX6_image_188 : decode cX6_image 188 = .ok (.iload_n 2, 1) := by decide +kernel
theorem dX6_image_189 : decode cX6_image 189 = .ok (.sipush 1600, 3) := by decide +kernel
theorem dX6_image_192 : decode cX6_image 192 = .ok (.if_icmp .ge 41, 3) := by decide +kernel
theorem dX6_image_195 : decode cX6_image 195 = .ok (.aload_n 0, 1) := by decide +kernel
theorem dX6_image_196 : decode cX6_image 196 = .ok (.getfield 74, 3) := by decide +kernel
theorem dX6_image_199 : decode cX6_image 199 = .ok (.iload_n 2, 1) := by decide +kernel
theorem dX6_image_200 : decode cX6_image 200 = .ok (.aload_n 0, 1) := by decide +kernel
theorem dX6_image_201 : decode cX6_image 201 = .ok (.aload_n 0, 1) := by decide +kernel
theorem dX6_image_202 : decode cX6_image 202 = .ok (.getfield 74, 3) := by decide +kernel
theorem dX6_image_205 : decode cX6_image 205 = .ok (.iload_n 2, 1) := by decide +kernel
theorem dX6_image_206 : decode cX6_image 206 = .ok (.iaload, 1) := by decide +kernel
theorem dX6_image_207 : decode cX6_image 207 = .ok (.invokevirtual 376, 3) := by decide +kernel
theorem dX6_image_210 : decode cX6_image 210 = .ok (.iastore, 1) := by decide +kernel
theorem dX6_image_211 : decode cX6_image 211 = .ok (.aload_n 0, 1) := by decide +kernel
theorem dX6_image_212 : decode cX6_image 212 = .ok (.getfield 77, 3) := by decide +kernel
theorem dX6_image_215 : decode cX6_image 215 = .ok (.iload_n 2, 1) := by decide +kernel
theorem dX6_image_216 : decode cX6_image 216 = .ok (.aload_n 0, 1) := by decide +kernel
theorem dX6_image_217 : decode cX6_image 217 = .ok (.aload_n 0, 1) := by decide +kernel
theorem dX6_image_218 : decode cX6_image 218 = .ok (.getfield 77, 3) := by decide +kernel
theorem dX6_image_221 : decode cX6_image 221 = .ok (.iload_n 2, 1) := by decide +kernel
theorem dX6_image_222 : decode cX6_image 222 = .ok (.iaload, 1) := by decide +kernel
theorem dX6_image_223 : decode cX6_image 223 = .ok (.invokevirtual 376, 3) := by decide +kernel
theorem dX6_image_226 : decode cX6_image 226 = .ok (.iastore, 1) := by decide +kernel
theorem dX6_image_227 : decode cX6_image 227 = .ok (.iinc 2 1, 3) := by decide +kernel
theorem dX6_image_230 : decode cX6_image 230 = .ok (.goto (-42), 3) := by decide +kernel
theorem dX6_image_233 : decode cX6_image 233 = .ok (.iconst 1, 1) := by decide +kernel
theorem dX6_image_234 : decode cX6_image 234 = .ok (.ireturn, 1) := by decide +kernel
set_option maxRecDepth 20000 in
theorem ggX6_look_X6_eatenAll : GoodIn wsX6_look wsX6_eatenAll := goodIn_r _ [11, 2, 12, 17, 18, 19, 20, 21, 22, 23, 24, 25, 26, 27, 28, 29, 30, 31, 32, 33, 34, 35, 36, 37, 38, 39, 40, 41, 42, 43, 44, 45, 46, 47, 48, 49, 50, 51, 52, 53, 54, 55, 56, 57, 58, 59, 60, 61, 62, 63, 64, 65, 66, 67, 68, 69, 70, 71] rfl (by decide +kernel)
set_option maxRecDepth 20000 in
theorem gX6_look_X6_eatenAll : GoodIn wsX6_look (wsV RX6 364 RX6 yX6_eatenAll wsX6_eatenAll) := goodIn_app (goodIn_of _ (by decide +kernel)) ggX6_look_X6_eatenAll
set_option maxRecDepth 20000 in
theorem ggX6_look_X6_isIn : GoodIn wsX6_look wsX6_isIn := goodIn_r _ [16] rfl (by decide +kernel)
set_option maxRecDepth 20000 in
theorem gX6_look_X6_isIn : GoodIn wsX6_look (wsV RX6 129 RX6 yX6_isIn wsX6_isIn) := goodIn_app (goodIn_of _ (by decide +kernel)) ggX6_look_X6_isIn
theorem dX6_look_0 : decode cX6_look 0 = .ok (.aload_n 0, 1) := by decide +kernel
theorem dX6_look_1 : decode cX6_look 1 = .ok (.iconst 0, 1) := by decide +kernel
theorem dX6_look_2 : decode cX6_look 2 = .ok (.putfield 121, 3) := by decide +kernel
theorem dX6_look_5 : decode cX6_look 5 = .ok (.iload_n 1, 1) := by decide +kernel
theorem dX6_look_6 : decode cX6_look 6 = .ok (.ifCond .ne 8, 3) := by decide +kernel
theorem dX6_look_9 : decode cX6_look 9 = .ok (.aload_n 0, 1) := by decide +kernel
theorem dX6_look_10 : decode cX6_look 10 = .ok (.getfield 7, 3) := by decide +kernel
theorem dX6_look_13 : decode cX6_look 13 = .ok (.ireturn, 1) := by decide +kernel
theorem dX6_look_14 : decode cX6_look 14 = .ok (.iload_n 1, 1) := by decide +kernel
theorem dX6_look_15 : decode cX6_look 15 = .ok (.iconst 1, 1) := by decide +kernel
theorem dX6_look_16 : decode cX6_look 16 = .ok (.if_icmp .ne 8, 3) := by decide +kernel
theorem dX6_look_19 : decode cX6_look 19 = .ok (.aload_n 0, 1) := by decide +kernel
theorem dX6_look_20 : decode cX6_look 20 = .ok (.getfield 251, 3) := by decide +kernel
theorem dX6_look_23 : decode cX6_look 23 = .ok (.ireturn, 1) := by decide +kernel
theorem dX6_look_24 : decode cX6_look 24 = .ok (.iload_n 1, 1) := by decide +kernel
theorem dX6_look_25 : decode cX6_look 25 = .ok (.iconst 2, 1) := by decide +kernel
theorem dX6_look_26 : decode cX6_look 26 = .ok (.if_icmp .ne 8, 3) := by decide +kernel
theorem dX6_look_29 : decode cX6_look 29 = .ok (.aload_n 0, 1) := by decide +kernel
theorem dX6_look_30 : decode cX6_look 30 = .ok (.getfield 263, 3) := by decide +kernel
theorem dX6_look_33 : decode cX6_look 33 = .ok (.ireturn, 1) := by decide +kernel
theorem dX6_look_34 : decode cX6_look 34 = .ok (.iload_n 1, 1) := by decide +kernel
theorem dX6_look_35 : decode cX6_look 35 = .ok (.iconst 4, 1) := by decide +kernel
theorem dX6_look_36 : decode cX6_look 36 = .ok (.if_icmp .ne 8, 3) := by decide +kernel
theorem dX6_look_39 : decode cX6_look 39 = .ok (.aload_n 0, 1) := by decide +kernel
theorem dX6_look_40 : decode cX6_look 40 = .ok (.invokevirtual 364, 3) := by decide +kernel
theorem dX6_look_43 : decode cX6_look 43 = .ok (.ireturn, 1) := by decide +kernel
theorem dX6_look_44 : decode cX6_look 44 = .ok (.aload_n 0, 1) := by decide +kernel
theorem dX6_look_45 : decode cX6_look 45 = .ok (.iload_n 1, 1) := by decide +kernel
theorem dX6_look_46 : decode cX6_look 46 = .ok (.bipush 10, 2) := by decide +kernel
theorem dX6_look_48 : decode cX6_look 48 = .ok (.bipush 19, 2) := by decide +kernel
theorem dX6_look_50 : decode cX6_look 50 = .ok (.invokevirtual 129, 3) := by decide +kernel
theorem dX6_look_53 : decode cX6_look 53 = .ok (.ifCond .eq 13, 3) := by decide +kernel
theorem dX6_look_56 : decode cX6_look 56 = .ok (.aload_n 0, 1) := by decide +kernel
theorem dX6_look_57 : decode cX6_look 57 = .ok (.getfield 53, 3) := by decide +kernel
theorem dX6_look_60 : decode cX6_look 60 = .ok (.iload_n 1, 1) := by decide +kernel
theorem dX6_look_61 : decode cX6_look 61 = .ok (.bipush 10, 2) := by decide +kernel
theorem dX6_look_63 : decode cX6_look 63 = .ok (.isub, 1) := by decide +kernel
theorem dX6_look_64 : decode cX6_look 64 = .ok (.iaload, 1) := by decide +kernel
theorem dX6_look_65 : decode cX6_look 65 = .ok (.ireturn, 1) := by decide +kernel
theorem dX6_look_66 : decode cX6_look 66 = .ok (.iload_n 1, 1) := by decide +kernel
theorem dX6_look_67 : decode cX6_look 67 = .ok (.iconst 3, 1) := by decide +kernel
theorem dX6_look_68 : decode cX6_look 68 = .ok (.if_icmp .eq 5, 3) := by decide +kernel
theorem dX6_look_71 : decode cX6_look 71 = .ok (.iconst (-1), 1) := by decide +kernel
theorem dX6_look_72 : decode cX6_look 72 = .ok (.ireturn, 1) := by decide +kernel
theorem dX6_look_73 : decode cX6_look 73 = .ok (.iconst 0, 1) := by decide +kernel
theorem dX6_look_74 : decode cX6_look 74 = .ok (.istore_n 2, 1) := by decide +kernel
theorem dX6_look_75 : decode cX6_look 75 = .ok (.iconst 0, 1) := by decide +kernel
theorem dX6_look_76 : decode cX6_look 76 = .ok (.istore_n 3, 1) := by decide +kernel
theorem dX6_look_77 : decode cX6_look 77 = .ok (.iload_n 3, 1) := by decide +kernel
theorem dX6_look_78 : decode cX6_look 78 = .ok (.aload_n 0, 1) := by decide +kernel
theorem dX6_look_79 : decode cX6_look 79 = .ok (.getfield 7, 3) := by decide +kernel
theorem dX6_look_82 : decode cX6_look 82 = .ok (.if_icmp .ge 18, 3) := by decide +kernel
theorem dX6_look_85 : decode cX6_look 85 = .ok (.iload_n 2, 1) := by decide +kernel
theorem dX6_look_86 : decode cX6_look 86 = .ok (.aload_n 0, 1) := by decide +kernel
theorem dX6_look_87 : decode cX6_look 87 = .ok (.getfield 13, 3) := by decide +kernel
theorem dX6_look_90 : decode cX6_look 90 = .ok (.iload_n 3, 1) := by decide +kernel
theorem dX6_look_91 : decode cX6_look 91 = .ok (.iaload, 1) := by decide +kernel
theorem dX6_look_92 : decode cX6_look 92 = .ok (.iadd, 1) := by decide +kernel
theorem dX6_look_93 : decode cX6_look 93 = .ok (.istore_n 2, 1) := by decide +kernel
theorem dX6_look_94 : decode cX6_look 94 = .ok (.iinc 3 1, 3) := by decide +kernel
theorem dX6_look_97 : decode cX6_look 97 = .ok (.goto (-20), 3) := by decide +kernel
theorem dX6_look_100 : decode cX6_look 100 = .ok (.iload_n 2, 1) := by decide +kernel
theorem dX6_look_101 : decode cX6_look 101 = .ok (.ireturn, 1) := by decide +kernel
