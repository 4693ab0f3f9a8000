theorem dX6_text_42 : decode cX6_text 42 = .ok (.iload_n 2, 1) := by decide +kernel
theorem dX6_text_43 : decode cX6_text 43 = .ok (.ifCond .eq 10, 3) := by decide +kernel
theorem dX6_text_46 : decode cX6_text 46 = .ok (.aload_n 0, 1) := by decide +kernel
theorem dX6_text_47 : decode cX6_text 47 = .ok (.invokevirtual 235, 3) := by decide +kernel
theorem dX6_text_50 : decode cX6_text 50 = .ok (.goto 4, 3) := by decide +kernel
theorem dX6_text_53 : decode cX6_text 53 = .ok (.iconst (-1), 1) := by decide +kernel
theorem dX6_text_54 : decode cX6_text 54 = .ok (.istore_n 3, 1) := by decide +kernel
theorem dX6_text_55 : decode cX6_text 55 = .ok (.aload_n 0, 1) := by decide +kernel
theorem dX6_text_56 : decode cX6_text 56 = .ok (.iconst 0, 1) := by decide +kernel
theorem dX6_text_57 : decode cX6_text 57 = .ok (.putfield 145, 3) := by decide +kernel
theorem dX6_text_60 : decode cX6_text 60 = .ok (.iload_n 2, 1) := by decide +kernel
theorem dX6_text_61 : decode cX6_text 61 = .ok (.ifCond .eq 24, 3) := by decide +kernel
theorem dX6_text_64 : decode cX6_text 64 = .ok (.iload_n 3, 1) := by decide +kernel
theorem dX6_text_65 : decode cX6_text 65 = .ok (.iconst (-1), 1) := by decide +kernel
theorem dX6_text_66 : decode cX6_text 66 = .ok (.if_icmp .ne 19, 3) := by decide +kernel
theorem dX6_text_69 : decode cX6_text 69 = .ok (.aload_n 0, 1) := by decide +kernel
theorem dX6_text_70 : decode cX6_text 70 = .ok (.aload_n 0, 1) := by decide +kernel
theorem dX6_text_71 : decode cX6_text 71 = .ok (.getfield 179, 3) := by decide +kernel
theorem dX6_text_74 : decode cX6_text 74 = .ok (.putfield 232, 3) := by decide +kernel
theorem dX6_text_77 : decode cX6_text 77 = .ok (.aload_n 0, 1) := by decide +kernel
theorem dX6_text_78 : decode cX6_text 78 = .ok (.aload_n 0, 1) := by decide +kernel
theorem dX6_text_79 : decode cX6_text 79 = .ok (.getfield 182, 3) := by decide +kernel
theorem dX6_text_82 : decode cX6_text 82 = .ok (.putfield 83, 3) := by decide +kernel
theorem dX6_text_85 : decode cX6_text 85 = .ok (.iload_n 3, 1) := by decide +kernel
theorem dX6_text_86 : decode cX6_text 86 = .ok (.iconst (-1), 1) := by decide +kernel
theorem dX6_text_87 : decode cX6_text 87 = .ok (.if_icmp .ne 5, 3) := by decide +kernel
theorem dX6_text_90 : decode cX6_text 90 = .ok (.iconst (-1), 1) := by decide +kernel
theorem dX6_text_91 : decode cX6_text 91 = .ok (.ireturn, 1) := by decide +kernel
theorem dX6_text_92 : decode cX6_text 92 = .ok (.iconst 0, 1) := by decide +kernel
theorem dX6_text_93 : decode cX6_text 93 = .ok (.istore 4, 2) := by decide +kernel
theorem dX6_text_95 : decode cX6_text 95 = .ok (.iload 4, 2) := by decide +kernel
theorem dX6_text_97 : decode cX6_text 97 = .ok (.iload_n 3, 1) := by decide +kernel
theorem dX6_text_98 : decode cX6_text 98 = .ok (.if_icmp .ge 75, 3) := by decide +kernel
theorem dX6_text_101 : decode cX6_text 101 = .ok (.aload_n 0, 1) := by decide +kernel
theorem dX6_text_102 : decode cX6_text 102 = .ok (.getfield 65, 3) := by decide +kernel
theorem dX6_text_105 : decode cX6_text 105 = .ok (.bipush 16, 2) := by decide +kernel
theorem dX6_text_107 : decode cX6_text 107 = .ok (.iload_n 1, 1) := by decide +kernel
theorem dX6_text_108 : decode cX6_text 108 = .ok (.imul, 1) := by decide +kernel
theorem dX6_text_109 : decode cX6_text 109 = .ok (.iload 4, 2) := by decide +kernel
theorem dX6_text_111 : decode cX6_text 111 = .ok (.iadd, 1) := by decide +kernel
theorem dX6_text_112 : decode cX6_text 112 = .ok (.aload_n 0, 1) := by decide +kernel
theorem dX6_text_113 : decode cX6_text 113 = .ok (.getfield 65, 3) := by decide +kernel
theorem dX6_text_116 : decode cX6_text 116 = .ok (.bipush 64, 2) := by decide +kernel
theorem dX6_text_118 : decode cX6_text 118 = .ok (.iload 4, 2) := by decide +kernel
theorem dX6_text_120 : decode cX6_text 120 = .ok (.iadd, 1) := by decide +kernel
theorem dX6_text_121 : decode cX6_text 121 = .ok (.iaload, 1) := by decide +kernel
theorem dX6_text_122 : decode cX6_text 122 = .ok (.iastore, 1) := by decide +kernel
theorem dX6_text_123 : decode cX6_text 123 = .ok (.aload_n 0, 1) := by decide +kernel
theorem dX6_text_124 : decode cX6_text 124 = .ok (.getfield 68, 3) := by decide +kernel
theorem dX6_text_127 : decode cX6_text 127 = .ok (.bipush 16, 2) := by decide +kernel
theorem dX6_text_129 : decode cX6_text 129 = .ok (.iload_n 1, 1) := by decide +kernel
theorem dX6_text_130 : decode cX6_text 130 = .ok (.imul, 1) := by decide +kernel
theorem dX6_text_131 : decode cX6_text 131 = .ok (.iload 4, 2) := by decide +kernel
theorem dX6_text_133 : decode cX6_text 133 = .ok (.iadd, 1) := by decide +kernel
theorem dX6_text_134 : decode cX6_text 134 = .ok (.aload_n 0, 1) := by decide +kernel
theorem dX6_text_135 : decode cX6_text 135 = .ok (.getfield 68, 3) := by decide +kernel
theorem dX6_text_138 : decode cX6_text 138 = .ok (.bipush 64, 2) := by decide +kernel
theorem dX6_text_140 : decode cX6_text 140 = .ok (.iload 4, 2) := by decide +kernel
theorem dX6_text_142 : decode cX6_text 142 = .ok (.iadd, 1) := by decide +kernel
theorem dX6_text_143 : decode cX6_text 143 = .ok (.iaload, 1) := by decide +kernel
theorem dX6_text_144 : decode cX6_text 144 = .ok (.iastore, 1) := by decide +kernel
theorem dX6_text_145 : decode cX6_text 145 = .ok (.aload_n 0, 1) := by decide +kernel
theorem dX6_text_146 : decode cX6_text 146 = .ok (.getfield 71, 3) := by decide +kernel
theorem dX6_text_149 : decode cX6_text 149 = .ok (.bipush 16, 2) := by decide +kernel
theorem dX6_text_151 : decode cX6_text 151 = .ok (.iload_n 1, 1) := by decide +kernel
theorem dX6_text_152 : decode cX6_text 152 = .ok (.imul, 1) := by decide +kernel
theorem dX6_text_153 : decode cX6_text 153 = .ok (.iload 4, 2) := by decide +kernel
theorem dX6_text_155 : decode cX6_text 155 = .ok (.iadd, 1) := by decide +kernel
theorem dX6_text_156 : decode cX6_text 156 = .ok (.aload_n 0, 1) := by decide +kernel
theorem dX6_text_157 : decode cX6_text 157 = .ok (.getfield 71, 3) := by decide +kernel
theorem dX6_text_160 : decode cX6_text 160 = .ok (.bipush 64, 2) := by decide +kernel
theorem dX6_text_162 : decode cX6_text 162 = .ok (.iload 4, 2) := by decide +kernel
theorem dX6_text_164 : decode cX6_text 164 = .ok (.iadd, 1) := by decide +kernel
theorem dX6_text_165 : decode cX6_text 165 = .ok (.iaload, 1) := by decide +kernel
theorem dX6_text_166 : decode cX6_text 166 = .ok (.iastore, 1) := by decide +kernel
theorem dX6_text_167 : decode cX6_text 167 = .ok (.iinc 4 1, 3) := by decide +kernel
theorem dX6_text_170 : decode cX6_text 170 = .ok (.goto (-75), 3) := by decide +kernel
theorem dX6_text_173 : decode cX6_text 173 = .ok (.iconst 0, 1) := by decide +kernel
theorem dX6_text_174 : decode cX6_text 174 = .ok (.istore 4, 2) := by decide +kernel
theorem dX6_text_176 : decode cX6_text 176 = .ok (.iload 4, 2) := by decide +kernel
theorem dX6_text_178 : decode cX6_text 178 = .ok (.aload_n 0, 1) := by decide +kernel
theorem dX6_text_179 : decode cX6_text 179 = .ok (.getfield 185, 3) := by decide +kernel
theorem dX6_text_182 : decode cX6_text 182 = .ok (.if_icmp .ge 57, 3) := by decide +kernel
theorem dX6_text_185 : decode cX6_text 185 = .ok (.aload_n 0, 1) := by decide +kernel
theorem dX6_text_186 : decode cX6_text 186 = .ok (.getfield 74, 3) := by decide +kernel
theorem dX6_text_189 : decode cX6_text 189 = .ok (.sipush 400, 3) := by decide +kernel
theorem dX6_text_192 : decode cX6_text 192 = .ok (.iload_n 1, 1) := by decide +kernel
theorem dX6_text_193 : decode cX6_text 193 = .ok (.imul, 1) := by decide +kernel
theorem dX6_text_194 : decode cX6_text 194 = .ok (.iload 4, 2) := by decide +kernel
theorem dX6_text_196 : decode cX6_text 196 = .ok (.iadd, 1) := by decide +kernel
theorem dX6_text_197 : decode cX6_text 197 = .ok (.aload_n 0, 1) := by decide +kernel
theorem dX6_text_198 : decode cX6_text 198 = .ok (.getfield 74, 3) := by decide +kernel
theorem dX6_text_201 : decode cX6_text 201 = .ok (.sipush 1600, 3) := by decide +kernel
theorem dX6_text_204 : decode cX6_text 204 = .ok (.iload 4, 2) := by decide +kernel
theorem dX6_text_206 : decode cX6_text 206 = .ok (.iadd, 1) := by decide +kernel
theorem dX6_text_207 : decode cX6_text 207 = .ok (.iaload, 1) := by decide +kernel
theorem dX6_text_208 : decode cX6_text 208 = .ok (.iastore, 1) := by decide +kernel
theorem dX6_text_209 : decode cX6_text 209 = .ok (.aload_n 0, 1) := by decide +kernel
theorem dX6_text_210 : decode cX6_text 210 = .ok (.getfield 77, 3) := by decide +kernel
theorem dX6_text_213 : decode cX6_text 213 = .ok (.sipush 400, 3) := by decide +kernel
theorem dX6_text_216 : decode cX6_text 216 = .ok (.iload_n 1, 1) := by decide +kernel
theorem dX6_text_217 : decode cX6_text 217 = .ok (.imul, 1) := by decide +kernel
theorem dX6_text_218 : decode cX6_text 218 = .ok (.iload 4, 2) := by decide +kernel
theorem dX6_text_220 : decode cX6_text 220 = .ok (.iadd, 1) := by decide +kernel
theorem dX6_text_221 : decode cX6_text 221 = .ok (.aload_n 0, 1) := by decide +kernel
theorem dX6_text_222 : decode cX6_text 222 = .ok (.getfield 77, 3) := by decide +kernel
theorem dX6_text_225 : decode cX6_text 225 = .ok (.sipush 1600, 3) := by decide +kernel
theorem dX6_text_228 : decode cX6_text 228 = .ok (.iload 4, 2) := by decide +kernel
theorem dX6_text_230 : decode cX6_text 230 = .ok (.iadd, 1) := by decide +kernel
theorem dX6_text_231 : decode cX6_text 231 = .ok (.iaload, 1) := by decide +kernel
theorem dX6_text_232 : decode cX6_text 232 = .ok (.iastore, 1) := by decide +kernel
theorem dX6_text_233 : decode cX6_text 233 = .ok (.iinc 4 1, 3) := by decide +kernel
theorem dX6_text_236 : decode cX6_text 236 = .ok (.goto (-60), 3) := by decide +kernel
theorem dX6_text_239 : decode cX6_text 239 = .ok (.aload_n 0, 1) := by decide +kernel
theorem dX6_text_240 : decode cX6_text 240 = .ok (.getfield 62, 3) := by decide +kernel
theorem dX6_text_243 : decode cX6_text 243 = .ok (.iload_n 1, 1) := by decide +kernel
theorem dX6_text_244 : decode cX6_text 244 = .ok (.iload_n 3, 1) := by decide +kernel
theorem dX6_text_245 : decode cX6_text 245 = .ok (.iastore, 1) := by decide +kernel
theorem dX6_text_246 : decode cX6_text 246 = .ok (.iload_n 3, 1) := by decide +kernel
theorem dX6_text_247 : decode cX6_text 247 = .ok (.ireturn, 1) := by decide +kernel
theorem dX6_fault_0 : decode cX6_fault 0 = .ok (.aload_n 0, 1) := by decide +kernel
theorem dX6_fault_1 : decode cX6_fault 1 = .ok (.iconst 0, 1) := by decide +kernel
theorem dX6_fault_2 : decode cX6_fault 2 = .ok (.putfield 121, 3) := by decide +kernel
theorem dX6_fault_5 : decode cX6_fault 5 = .ok (.iload_n 1, 1) := by decide +kernel
theorem dX6_fault_6 : decode cX6_fault 6 = .ok (.ifCond .ne 10, 3) := by decide +kernel
theorem dX6_fault_9 : decode cX6_fault 9 = .ok (.aload_n 0, 1) := by decide +kernel
theorem dX6_fault_10 : decode cX6_fault 10 = .ok (.getfield 232, 3) := by decide +kernel
theorem dX6_fault_13 : decode cX6_fault 13 = .ok (.goto 16, 3) := by decide +kernel
theorem dX6_fault_16 : decode cX6_fault 16 = .ok (.iload_n 1, 1) := by decide +kernel
theorem dX6_fault_17 : decode cX6_fault 17 = .ok (.iconst 1, 1) := by decide +kernel
theorem dX6_fault_18 : decode cX6_fault 18 = .ok (.if_icmp .ne 10, 3) := by decide +kernel
theorem dX6_fault_21 : decode cX6_fault 21 = .ok (.aload_n 0, 1) := by decide +kernel
theorem dX6_fault_22 : decode cX6_fault 22 = .ok (.getfield 83, 3) := by decide +kernel
theorem dX6_fault_25 : decode cX6_fault 25 = .ok (.goto 4, 3) := by decide +kernel
theorem dX6_fault_28 : decode cX6_fault 28 = .ok (.iconst (-1), 1) := by decide +kernel
theorem dX6_fault_29 : decode cX6_fault 29 = .ok (.ireturn, 1) := by decide +kernel
theorem dX6_twoOf_0 : decode cX6_twoOf 0 = .ok (.iload_n 1, 1) := by decide +kernel
theorem dX6_twoOf_1 : decode cX6_twoOf 1 = .ok (.iconst 2, 1) := by decide +kernel
theorem dX6_twoOf_2 : decode cX6_twoOf 2 = .ok (.if_icmp .ne 7, 3) := by decide +kernel
theorem dX6_twoOf_5 : decode cX6_twoOf 5 = .ok (.iload_n 2, 1) := by decide +kernel
theorem dX6_twoOf_6 : decode cX6_twoOf 6 = .ok (.iload_n 3, 1) := by decide +kernel
theorem dX6_twoOf_7 : decode cX6_twoOf 7 = .ok (.iadd, 1) := by decide +kernel
theorem dX6_twoOf_8 : decode cX6_twoOf 8 = .ok (.ireturn, 1) := by decide +kernel
theorem dX6_twoOf_9 : decode cX6_twoOf 9 = .ok (.iload_n 1, 1) := by decide +kernel
theorem dX6_twoOf_10 : decode cX6_twoOf 10 = .ok (.iconst 3, 1) := by decide +kernel
theorem dX6_twoOf_11 : decode cX6_twoOf 11 = .ok (.if_icmp .ne 7, 3) := by decide +kernel
theorem dX6_twoOf_14 : decode cX6_twoOf 14 = .ok (.iload_n 2, 1) := by decide +kernel
theorem dX6_twoOf_15 : decode cX6_twoOf 15 = .ok (.iload_n 3, 1) := by decide +kernel
theorem dX6_twoOf_16 : decode cX6_twoOf 16 = .ok (.isub, 1) := by decide +kernel
theorem dX6_twoOf_17 : decode cX6_twoOf 17 = .ok (.ireturn, 1) := by decide +kernel
theorem dX6_twoOf_18 : decode cX6_twoOf 18 = .ok (.iload_n 1, 1) := by decide +kernel
theorem dX6_twoOf_19 : decode cX6_twoOf 19 = .ok (.iconst 4, 1) := by decide +kernel
theorem dX6_twoOf_20 : decode cX6_twoOf 20 = .ok (.if_icmp .ne 7, 3) := by decide +kernel
theorem dX6_twoOf_23 : decode cX6_twoOf 23 = .ok (.iload_n 2, 1) := by decide +kernel
theorem dX6_twoOf_24 : decode cX6_twoOf 24 = .ok (.iload_n 3, 1) := by decide +kernel
theorem dX6_twoOf_25 : decode cX6_twoOf 25 = .ok (.imul, 1) := by decide +kernel
theorem dX6_twoOf_26 : decode cX6_twoOf 26 = .ok (.ireturn, 1) := by decide +kernel
theorem dX6_twoOf_27 : decode cX6_twoOf 27 = .ok (.iload_n 1, 1) := by decide +kernel
theorem dX6_twoOf_28 : decode cX6_twoOf 28 = .ok (.iconst 5, 1) := by decide +kernel
theorem dX6_twoOf_29 : decode cX6_twoOf 29 = .ok (.if_icmp .ne 7, 3) := by decide +kernel
theorem dX6_twoOf_32 : decode cX6_twoOf 32 = .ok (.iload_n 2, 1) := by decide +kernel
theorem dX6_twoOf_33 : decode cX6_twoOf 33 = .ok (.iload_n 3, 1) := by decide +kernel
theorem dX6_twoOf_34 : decode cX6_twoOf 34 = .ok (.idiv, 1) := by decide +kernel
theorem dX6_twoOf_35 : decode cX6_twoOf 35 = .ok (.ireturn, 1) := by decide +kernel
theorem dX6_twoOf_36 : decode cX6_twoOf 36 = .ok (.iload_n 1, 1) := by decide +kernel
theorem dX6_twoOf_37 : decode cX6_twoOf 37 = .ok (.bipush 6, 2) := by decide +kernel
theorem dX6_twoOf_39 : decode cX6_twoOf 39 = .ok (.if_icmp .ne 14, 3) := by decide +kernel
theorem dX6_twoOf_42 : decode cX6_twoOf 42 = .ok (.iload_n 2, 1) := by decide +kernel
theorem dX6_twoOf_43 : decode cX6_twoOf 43 = .ok (.iload_n 3, 1) := by decide +kernel
theorem dX6_twoOf_44 : decode cX6_twoOf 44 = .ok (.if_icmp .ge 7, 3) := by decide +kernel
theorem dX6_twoOf_47 : decode cX6_twoOf 47 = .ok (.iconst 1, 1) := by decide +kernel
theorem dX6_twoOf_48 : decode cX6_twoOf 48 = .ok (.goto 4, 3) := by decide +kernel
theorem dX6_twoOf_51 : decode cX6_twoOf 51 = .ok (.iconst 0, 1) := by decide +kernel
theorem dX6_twoOf_52 : decode cX6_twoOf 52 = .ok (.ireturn, 1) := by decide +kernel
theorem dX6_twoOf_53 : decode cX6_twoOf 53 = .ok (.iload_n 1, 1) := by decide +kernel
theorem dX6_twoOf_54 : decode cX6_twoOf 54 = .ok (.bipush 7, 2) := by decide +kernel
theorem dX6_twoOf_56 : decode cX6_twoOf 56 = .ok (.if_icmp .ne 14, 3) := by decide +kernel
theorem dX6_twoOf_59 : decode cX6_twoOf 59 = .ok (.iload_n 2, 1) := by decide +kernel
theorem dX6_twoOf_60 : decode cX6_twoOf 60 = .ok (.iload_n 3, 1) := by decide +kernel
theorem dX6_twoOf_61 : decode cX6_twoOf 61 = .ok (.if_icmp .ne 7, 3) := by decide +kernel
theorem dX6_twoOf_64 : decode cX6_twoOf 64 = .ok (.iconst 1, 1) := by decide +kernel
theorem dX6_twoOf_65 : decode cX6_twoOf 65 = .ok (.goto 4, 3) := by decide +kernel
theorem dX6_twoOf_68 : decode cX6_twoOf 68 = .ok (.iconst 0, 1) := by decide +kernel
theorem dX6_twoOf_69 : decode cX6_twoOf 69 = .ok (.ireturn, 1) := by decide +kernel
theorem dX6_twoOf_70 : decode cX6_twoOf 70 = .ok (.iload_n 1, 1) := by decide +kernel
theorem dX6_twoOf_71 : decode cX6_twoOf 71 = .ok (.bipush 8, 2) := by decide +kernel
theorem dX6_twoOf_73 : decode cX6_twoOf 73 = .ok (.if_icmp .ne 14, 3) := by decide +kernel
theorem dX6_twoOf_76 : decode cX6_twoOf 76 = .ok (.iload_n 2, 1) := by decide +kernel
theorem dX6_twoOf_77 : decode cX6_twoOf 77 = .ok (.iload_n 3, 1) := by decide +kernel
theorem dX6_twoOf_78 : decode cX6_twoOf 78 = .ok (.if_icmp .le 7, 3) := by decide +kernel
theorem dX6_twoOf_81 : decode cX6_twoOf 81 = .ok (.iconst 1, 1) := by decide +kernel
theorem dX6_twoOf_82 : decode cX6_twoOf 82 = .ok (.goto 4, 3) := by decide +kernel
theorem dX6_twoOf_85 : decode cX6_twoOf 85 = .ok (.iconst 0, 1) := by decide +kernel
theorem dX6_twoOf_86 : decode cX6_twoOf 86 = .ok (.ireturn, 1) := by decide +kernel
theorem dX6_twoOf_87 : decode cX6_twoOf 87 = .ok (.iload_n 1, 1) := by decide +kernel
theorem dX6_twoOf_88 : decode cX6_twoOf 88 = .ok (.bipush 10, 2) := by decide +kernel
theorem dX6_twoOf_90 : decode cX6_twoOf 90 = .ok (.if_icmp .ne 9, 3) := by decide +kernel
theorem dX6_twoOf_93 : decode cX6_twoOf 93 = .ok (.iload_n 2, 1) := by decide +kernel
theorem dX6_twoOf_94 : decode cX6_twoOf 94 = .ok (.iload_n 3, 1) := by decide +kernel
theorem dX6_twoOf_95 : decode cX6_twoOf 95 = .ok (.imul, 1) := by decide +kernel
theorem dX6_twoOf_96 : decode cX6_twoOf 96 = .ok (.goto 14, 3) := by decide +kernel
theorem dX6_twoOf_99 : decode cX6_twoOf 99 = .ok (.iload_n 2, 1) := by decide +kernel
theorem dX6_twoOf_100 : decode cX6_twoOf 100 = .ok (.iload_n 3, 1) := by decide +kernel
theorem dX6_twoOf_101 : decode cX6_twoOf 101 = .ok (.iadd, 1) := by decide +kernel
theorem dX6_twoOf_102 : decode cX6_twoOf 102 = .ok (.ifCond .le 7, 3) := by decide +kernel
theorem dX6_twoOf_105 : decode cX6_twoOf 105 = .ok (.iconst 1, 1) := by decide +kernel
theorem dX6_twoOf_106 : decode cX6_twoOf 106 = .ok (.goto 4, 3) := by decide +kernel
theorem dX6_twoOf_109 : decode cX6_twoOf 109 = .ok (.iconst 0, 1) := by decide +kernel
theorem dX6_twoOf_110 : decode cX6_twoOf 110 = .ok (.ireturn, 1) := by decide +kernel
set_option maxRecDepth 20000 in
theorem ggX6_worthAt_X6_twoOf : GoodIn wsX6_worthAt wsX6_twoOf := goodIn_r _ [9] (by decide +kernel) (by decide +kernel)
set_option maxRecDepth 20000 in
theorem gX6_worthAt_X6_twoOf : GoodIn wsX6_worthAt (wsV RX6 238 RX6 yX6_twoOf wsX6_twoOf) := goodIn_app (goodIn_of _ (by decide +kernel)) ggX6_worthAt_X6_twoOf
theorem dX6_worthAt_0 : decode cX6_worthAt 0 = .ok (.iconst 0, 1) := by decide +kernel
theorem dX6_worthAt_1 : decode cX6_worthAt 1 = .ok (.istore 4, 2) := by decide +kernel
theorem dX6_worthAt_3 : decode cX6_worthAt 3 = .ok (.sipush 400, 3) := by decide +kernel
theorem dX6_worthAt_6 : decode cX6_worthAt 6 = .ok (.iload_n 1, 1) := by decide +kernel
theorem dX6_worthAt_7 : decode cX6_worthAt 7 = .ok (.imul, 1) := by decide +kernel
theorem dX6_worthAt_8 : decode cX6_worthAt 8 = .ok (.iload_n 2, 1) := by decide +kernel
theorem dX6_worthAt_9 : decode cX6_worthAt 9 = .ok (.iadd, 1) := by decide +kernel
theorem dX6_worthAt_10 : decode cX6_worthAt 10 = .ok (.istore 5, 2) := by decide +kernel
theorem dX6_worthAt_12 : decode cX6_worthAt 12 = .ok (.iload 5, 2) := by decide +kernel
theorem dX6_worthAt_14 : decode cX6_worthAt 14 = .ok (.sipush 400, 3) := by decide +kernel
theorem dX6_worthAt_17 : decode cX6_worthAt 17 = .ok (.iload_n 1, 1) := by decide +kernel
theorem dX6_worthAt_18 : decode cX6_worthAt 18 = .ok (.imul, 1) := by decide +kernel
theorem dX6_worthAt_19 : decode cX6_worthAt 19 = .ok (.iload_n 3, 1) := by decide +kernel
theorem dX6_worthAt_20 : decode cX6_worthAt 20 = .ok (.iadd, 1) := by decide +kernel
theorem dX6_worthAt_21 : decode cX6_worthAt 21 = .ok (.if_icmp .ge 155, 3) := by decide +kernel
theorem dX6_worthAt_24 : decode cX6_worthAt 24 = .ok (.aload_n 0, 1) := by decide +kernel
theorem dX6_worthAt_25 : decode cX6_worthAt 25 = .ok (.getfield 74, 3) := by decide +kernel
theorem dX6_worthAt_28 : decode cX6_worthAt 28 = .ok (.iload 5, 2) := by decide +kernel
theorem dX6_worthAt_30 : decode cX6_worthAt 30 = .ok (.iaload, 1) := by decide +kernel
theorem dX6_worthAt_31 : decode cX6_worthAt 31 = .ok (.ifCond .eq 14, 3) := by decide +kernel
theorem dX6_worthAt_34 : decode cX6_worthAt 34 = .ok (.aload_n 0, 1) := by decide +kernel
theorem dX6_worthAt_35 : decode cX6_worthAt 35 = .ok (.getfield 74, 3) := by decide +kernel
theorem dX6_worthAt_38 : decode cX6_worthAt 38 = .ok (.iload 5, 2) := by decide +kernel
theorem dX6_worthAt_40 : decode cX6_worthAt 40 = .ok (.iaload, 1) := by decide +kernel
theorem dX6_worthAt_41 : decode cX6_worthAt 41 = .ok (.iconst 1, 1) := by decide +kernel
theorem dX6_worthAt_42 : decode cX6_worthAt 42 = .ok (.if_icmp .ne 51, 3) := by decide +kernel
theorem dX6_worthAt_45 : decode cX6_worthAt 45 = .ok (.aload_n 0, 1) := by decide +kernel
theorem dX6_worthAt_46 : decode cX6_worthAt 46 = .ok (.getfield 89, 3) := by decide +kernel
theorem dX6_worthAt_49 : decode cX6_worthAt 49 = .ok (.iload 4, 2) := by decide +kernel
theorem dX6_worthAt_51 : decode cX6_worthAt 51 = .ok (.aload_n 0, 1) := by decide +kernel
theorem dX6_worthAt_52 : decode cX6_worthAt 52 = .ok (.getfield 74, 3) := by decide +kernel
theorem dX6_worthAt_55 : decode cX6_worthAt 55 = .ok (.iload 5, 2) := by decide +kernel
theorem dX6_worthAt_57 : decode cX6_worthAt 57 = .ok (.iaload, 1) := by decide +kernel
theorem dX6_worthAt_58 : decode cX6_worthAt 58 = .ok (.ifCond .ne 13, 3) := by decide +kernel
theorem dX6_worthAt_61 : decode cX6_worthAt 61 = .ok (.aload_n 0, 1) := by decide +kernel
theorem dX6_worthAt_62 : decode cX6_worthAt 62 = .ok (.getfield 77, 3) := by decide +kernel
theorem dX6_worthAt_65 : decode cX6_worthAt 65 = .ok (.iload 5, 2) := by decide +kernel
theorem dX6_worthAt_67 : decode cX6_worthAt 67 = .ok (.iaload, 1) := by decide +kernel
theorem dX6_worthAt_68 : decode cX6_worthAt 68 = .ok (.goto 15, 3) := by decide +kernel
theorem dX6_worthAt_71 : decode cX6_worthAt 71 = .ok (.aload_n 0, 1) := by decide +kernel
theorem dX6_worthAt_72 : decode cX6_worthAt 72 = .ok (.getfield 86, 3) := by decide +kernel
theorem dX6_worthAt_75 : decode cX6_worthAt 75 = .ok (.aload_n 0, 1) := by decide +kernel
theorem dX6_worthAt_76 : decode cX6_worthAt 76 = .ok (.getfield 77, 3) := by decide +kernel
theorem dX6_worthAt_79 : decode cX6_worthAt 79 = .ok (.iload 5, 2) := by decide +kernel
theorem dX6_worthAt_81 : decode cX6_worthAt 81 = .ok (.iaload, 1) := by decide +kernel
theorem dX6_worthAt_82 : decode cX6_worthAt 82 = .ok (.iaload, 1) := by decide +kernel
theorem dX6_worthAt_83 : decode cX6_worthAt 83 = .ok (.iastore, 1) := by decide +kernel
theorem dX6_worthAt_84 : decode cX6_worthAt 84 = .ok (.iload 4, 2) := by decide +kernel
theorem dX6_worthAt_86 : decode cX6_worthAt 86 = .ok (.iconst 1, 1) := by decide +kernel
theorem dX6_worthAt_87 : decode cX6_worthAt 87 = .ok (.iadd, 1) := by decide +kernel
theorem dX6_worthAt_88 : decode cX6_worthAt 88 = .ok (.istore 4, 2) := by decide +kernel
theorem dX6_worthAt_90 : decode cX6_worthAt 90 = .ok (.goto 80, 3) := by decide +kernel
theorem dX6_worthAt_93 : decode cX6_worthAt 93 = .ok (.aload_n 0, 1) := by decide +kernel
theorem dX6_worthAt_94 : decode cX6_worthAt 94 = .ok (.getfield 74, 3) := by decide +kernel
theorem dX6_worthAt_97 : decode cX6_worthAt 97 = .ok (.iload 5, 2) := by decide +kernel
theorem dX6_worthAt_99 : decode cX6_worthAt 99 = .ok (.iaload, 1) := by decide +kernel
theorem dX6_worthAt_100 : decode cX6_worthAt 100 = .ok (.bipush 9, 2) := by decide +kernel
theorem dX6_worthAt_102 : decode cX6_worthAt 102 = .ok (.if_icmp .ne 26, 3) := by decide +kernel
theorem dX6_worthAt_105 : decode cX6_worthAt 105 = .ok (.aload_n 0, 1) := by decide +kernel
theorem dX6_worthAt_106 : decode cX6_worthAt 106 = .ok (.getfield 89, 3) := by decide +kernel
theorem dX6_worthAt_109 : decode cX6_worthAt 109 = .ok (.iload 4, 2) := by decide +kernel
theorem dX6_worthAt_111 : decode cX6_worthAt 111 = .ok (.iconst 1, 1) := by decide +kernel
theorem dX6_worthAt_112 : decode cX6_worthAt 112 = .ok (.isub, 1) := by decide +kernel
theorem dX6_worthAt_113 : decode cX6_worthAt 113 = .ok (.iconst 1, 1) := by decide +kernel
theorem dX6_worthAt_114 : decode cX6_worthAt 114 = .ok (.aload_n 0, 1) := by decide +kernel
theorem dX6_worthAt_115 : decode cX6_worthAt 115 = .ok (.getfield 89, 3) := by decide +kernel
theorem dX6_worthAt_118 : decode cX6_worthAt 118 = .ok (.iload 4, 2) := by decide +kernel
theorem dX6_worthAt_120 : decode cX6_worthAt 120 = .ok (.iconst 1, 1) := by decide +kernel
theorem dX6_worthAt_121 : decode cX6_worthAt 121 = .ok (.isub, 1) := by decide +kernel
theorem dX6_worthAt_122 : decode cX6_worthAt 122 = .ok (.iaload, 1) := by decide +kernel
theorem dX6_worthAt_123 : decode cX6_worthAt 123 = .ok (.isub, 1) := by decide +kernel
theorem dX6_worthAt_124 : decode cX6_worthAt 124 = .ok (.iastore, 1) := by decide +kernel
theorem dX6_worthAt_125 : decode cX6_worthAt 125 = .ok (.goto 45, 3) := by decide +kernel
theorem dX6_worthAt_128 : decode cX6_worthAt 128 = .ok (.iload 4, 2) := by decide +kernel
theorem dX6_worthAt_130 : decode cX6_worthAt 130 = .ok (.iconst 1, 1) := by decide +kernel
theorem dX6_worthAt_131 : decode cX6_worthAt 131 = .ok (.isub, 1) := by decide +kernel
theorem dX6_worthAt_132 : decode cX6_worthAt 132 = .ok (.istore 4, 2) := by decide +kernel
theorem dX6_worthAt_134 : decode cX6_worthAt 134 = .ok (.aload_n 0, 1) := by decide +kernel
theorem dX6_worthAt_135 : decode cX6_worthAt 135 = .ok (.getfield 89, 3) := by decide +kernel
theorem dX6_worthAt_138 : decode cX6_worthAt 138 = .ok (.iload 4, 2) := by decide +kernel
theorem dX6_worthAt_140 : decode cX6_worthAt 140 = .ok (.iconst 1, 1) := by decide +kernel
theorem dX6_worthAt_141 : decode cX6_worthAt 141 = .ok (.isub, 1) := by decide +kernel
theorem dX6_worthAt_142 : decode cX6_worthAt 142 = .ok (.aload_n 0, 1) := by decide +kernel
theorem dX6_worthAt_143 : decode cX6_worthAt 143 = .ok (.aload_n 0, 1) := by decide +kernel
theorem dX6_worthAt_144 : decode cX6_worthAt 144 = .ok (.getfield 74, 3) := by decide +kernel
theorem dX6_worthAt_147 : decode cX6_worthAt 147 = .ok (.iload 5, 2) := by decide +kernel
theorem dX6_worthAt_149 : decode cX6_worthAt 149 = .ok (.iaload, 1) := by decide +kernel
theorem dX6_worthAt_150 : decode cX6_worthAt 150 = .ok (.aload_n 0, 1) := by decide +kernel
theorem dX6_worthAt_151 : decode cX6_worthAt 151 = .ok (.getfield 89, 3) := by decide +kernel
theorem dX6_worthAt_154 : decode cX6_worthAt 154 = .ok (.iload 4, 2) := by decide +kernel
theorem dX6_worthAt_156 : decode cX6_worthAt 156 = .ok (.iconst 1, 1) := by decide +kernel
theorem dX6_worthAt_157 : decode cX6_worthAt 157 = .ok (.isub, 1) := by decide +kernel
theorem dX6_worthAt_158 : decode cX6_worthAt 158 = .ok (.iaload, 1) := by decide +kernel
theorem dX6_worthAt_159 : decode cX6_worthAt 159 = .ok (.aload_n 0, 1) := by decide +kernel
theorem dX6_worthAt_160 : decode cX6_worthAt 160 = .ok (.getfield 89, 3) := by decide +kernel
theorem dX6_worthAt_163 : decode cX6_worthAt 163 = .ok (.iload 4, 2) := by decide +kernel
theorem dX6_worthAt_165 : decode cX6_worthAt 165 = .ok (.iaload, 1) := by decide +kernel
theorem dX6_worthAt_166 : decode cX6_worthAt 166 = .ok (.invokevirtual 238, 3) := by decide +kernel
theorem dX6_worthAt_169 : decode cX6_worthAt 169 = .ok (.iastore, 1) := by decide +kernel
theorem dX6_worthAt_170 : decode cX6_worthAt 170 = .ok (.iinc 5 1, 3) := by decide +kernel
theorem dX6_worthAt_173 : decode cX6_worthAt 173 = .ok (.goto (-161), 3) := by decide +kernel
theorem dX6_worthAt_176 : decode cX6_worthAt 176 = .ok (.aload_n 0, 1) := by decide +kernel
theorem dX6_worthAt_177 : decode cX6_worthAt 177 = .ok (.getfield 89, 3) := by decide +kernel
theorem dX6_worthAt_180 : decode cX6_worthAt 180 = .ok (.iconst 0, 1) := by decide +kernel
theorem dX6_worthAt_181 : decode cX6_worthAt 181 = .ok (.iaload, 1) := by decide +kernel
theorem dX6_worthAt_182 : decode cX6_worthAt 182 = .ok (.ireturn, 1) := by decide +kernel
set_option maxRecDepth 20000 in
theorem ggX6_doingBy_X6_worthAt : GoodIn wsX6_doingBy wsX6_worthAt := goodIn_r _ [9, 10, 11, 12, 13, 14, 15, 16, 8, 17, 18, 19, 20, 21, 22, 23, 24, 25, 26, 27, 28, 29, 30, 31, 32, 33, 34, 35, 36, 37, 38, 39, 40, 41, 42, 43, 44, 45, 46, 47, 48, 49, 50, 51, 52, 53, 54, 55, 56, 57, 58, 59, 60, 61, 62, 63, 64, 65, 66, 67, 68, 69, 70, 71, 72] (by decide +kernel) (by decide +kernel)
set_option maxRecDepth 20000 in
theorem gX6_doingBy_X6_worthAt : GoodIn wsX6_doingBy (wsV RX6 242 RX6 yX6_worthAt wsX6_worthAt) := goodIn_app (goodIn_of _ (by decide +kernel)) ggX6_doingBy_X6_worthAt
theorem dX6_doingBy_0 : decode cX6_doingBy 0 = .ok (.bipush 16, 2) := by decide +kernel
theorem dX6_doingBy_2 : decode cX6_doingBy 2 = .ok (.iload_n 1, 1) := by decide +kernel
theorem dX6_doingBy_3 : decode cX6_doingBy 3 = .ok (.imul, 1) := by decide +kernel
theorem dX6_doingBy_4 : decode cX6_doingBy 4 = .ok (.istore_n 2, 1) := by decide +kernel
theorem dX6_doingBy_5 : decode cX6_doingBy 5 = .ok (.iload_n 2, 1) := by decide +kernel
theorem dX6_doingBy_6 : decode cX6_doingBy 6 = .ok (.bipush 16, 2) := by decide +kernel
theorem dX6_doingBy_8 : decode cX6_doingBy 8 = .ok (.iload_n 1, 1) := by decide +kernel
theorem dX6_doingBy_9 : decode cX6_doingBy 9 = .ok (.imul, 1) := by decide +kernel
theorem dX6_doingBy_10 : decode cX6_doingBy 10 = .ok (.aload_n 0, 1) := by decide +kernel
theorem dX6_doingBy_11 : decode cX6_doingBy 11 = .ok (.getfield 62, 3) := by decide +kernel
theorem dX6_doingBy_14 : decode cX6_doingBy 14 = .ok (.iload_n 1, 1) := by decide +kernel
theorem dX6_doingBy_15 : decode cX6_doingBy 15 = .ok (.iaload, 1) := by decide +kernel
theorem dX6_doingBy_16 : decode cX6_doingBy 16 = .ok (.iadd, 1) := by decide +kernel
theorem dX6_doingBy_17 : decode cX6_doingBy 17 = .ok (.if_icmp .ge 51, 3) := by decide +kernel
theorem dX6_doingBy_20 : decode cX6_doingBy 20 = .ok (.aload_n 0, 1) := by decide +kernel
theorem dX6_doingBy_21 : decode cX6_doingBy 21 = .ok (.getfield 71, 3) := by decide +kernel
theorem dX6_doingBy_24 : decode cX6_doingBy 24 = .ok (.iload_n 2, 1) := by decide +kernel
theorem dX6_doingBy_25 : decode cX6_doingBy 25 = .ok (.iaload, 1) := by decide +kernel
theorem dX6_doingBy_26 : decode cX6_doingBy 26 = .ok (.aload_n 0, 1) := by decide +kernel
theorem dX6_doingBy_27 : decode cX6_doingBy 27 = .ok (.getfield 68, 3) := by decide +kernel
theorem dX6_doingBy_30 : decode cX6_doingBy 30 = .ok (.iload_n 2, 1) := by decide +kernel
theorem dX6_doingBy_31 : decode cX6_doingBy 31 = .ok (.iaload, 1) := by decide +kernel
theorem dX6_doingBy_32 : decode cX6_doingBy 32 = .ok (.if_icmp .eq 23, 3) := by decide +kernel
theorem dX6_doingBy_35 : decode cX6_doingBy 35 = .ok (.aload_n 0, 1) := by decide +kernel
theorem dX6_doingBy_36 : decode cX6_doingBy 36 = .ok (.iload_n 1, 1) := by decide +kernel
theorem dX6_doingBy_37 : decode cX6_doingBy 37 = .ok (.aload_n 0, 1) := by decide +kernel
theorem dX6_doingBy_38 : decode cX6_doingBy 38 = .ok (.getfield 68, 3) := by decide +kernel
theorem dX6_doingBy_41 : decode cX6_doingBy 41 = .ok (.iload_n 2, 1) := by decide +kernel
theorem dX6_doingBy_42 : decode cX6_doingBy 42 = .ok (.iaload, 1) := by decide +kernel
theorem dX6_doingBy_43 : decode cX6_doingBy 43 = .ok (.aload_n 0, 1) := by decide +kernel
theorem dX6_doingBy_44 : decode cX6_doingBy 44 = .ok (.getfield 71, 3) := by decide +kernel
theorem dX6_doingBy_47 : decode cX6_doingBy 47 = .ok (.iload_n 2, 1) := by decide +kernel
theorem dX6_doingBy_48 : decode cX6_doingBy 48 = .ok (.iaload, 1) := by decide +kernel
theorem dX6_doingBy_49 : decode cX6_doingBy 49 = .ok (.invokevirtual 242, 3) := by decide +kernel
theorem dX6_doingBy_52 : decode cX6_doingBy 52 = .ok (.ifCond .eq 10, 3) := by decide +kernel
theorem dX6_doingBy_55 : decode cX6_doingBy 55 = .ok (.aload_n 0, 1) := by decide +kernel
theorem dX6_doingBy_56 : decode cX6_doingBy 56 = .ok (.getfield 65, 3) := by decide +kernel
theorem dX6_doingBy_59 : decode cX6_doingBy 59 = .ok (.iload_n 2, 1) := by decide +kernel
theorem dX6_doingBy_60 : decode cX6_doingBy 60 = .ok (.iaload, 1) := by decide +kernel
theorem dX6_doingBy_61 : decode cX6_doingBy 61 = .ok (.ireturn, 1) := by decide +kernel
theorem dX6_doingBy_62 : decode cX6_doingBy 62 = .ok (.iinc 2 1, 3) := by decide +kernel
theorem dX6_doingBy_65 : decode cX6_doingBy 65 = .ok (.goto (-60), 3) := by decide +kernel
theorem dX6_doingBy_68 : decode cX6_doingBy 68 = .ok (.iconst 0, 1) := by decide +kernel
theorem dX6_doingBy_69 : decode cX6_doingBy 69 = .ok (.ireturn, 1) := by decide +kernel
set_option maxRecDepth 20000 in
theorem ggX6_doingOf_X6_leftOf : GoodIn wsX6_doingOf wsX6_leftOf := goodIn_r _ [15, 16, 48, 49, 50, 51, 52, 53, 54, 55, 56, 57, 58, 59, 60, 61, 62, 63, 64, 65, 66, 67, 68, 69, 70, 71, 72, 73, 74, 75, 76, 77, 78, 79, 80, 81, 82, 83, 84, 85, 86, 87, 88, 89, 90, 91, 92, 93, 94, 95, 96, 97, 98, 99, 100, 101, 102] (by decide +kernel) (by decide +kernel)
set_option maxRecDepth 20000 in
theorem gX6_doingOf_X6_leftOf : GoodIn wsX6_doingOf (wsV RX6 245 RX6 yX6_leftOf wsX6_leftOf) := goodIn_app (goodIn_of _ (by decide +kernel)) ggX6_doingOf_X6_leftOf
set_option maxRecDepth 20000 in
theorem ggX6_doingOf_X6_rightOf : GoodIn wsX6_doingOf wsX6_rightOf := goodIn_r _ [20, 16, 48, 49, 50, 51, 52, 53, 54, 55, 56, 57, 58, 59, 60, 61, 62, 63, 64, 65, 66, 67, 68, 69, 70, 71, 72, 73, 74, 75, 76, 77, 78, 79, 80, 81, 82, 83, 84, 85, 86, 87, 88, 89, 90, 91, 92, 93, 94, 95, 96, 97, 98, 99, 100, 101, 102] (by decide +kernel) (by decide +kernel)
set_option maxRecDepth 20000 in
theorem gX6_doingOf_X6_rightOf : GoodIn wsX6_doingOf (wsV RX6 248 RX6 yX6_rightOf wsX6_rightOf) := goodIn_app (goodIn_of _ (by decide +kernel)) ggX6_doingOf_X6_rightOf
set_option maxRecDepth 20000 in
theorem ggX6_doingOf_X6_worthOf : GoodIn wsX6_doingOf wsX6_worthOf := goodIn_r _ [24, 3, 25, 26, 27, 14, 28, 48, 49, 50, 51, 52, 53, 54, 55, 56, 57, 58, 59, 60, 61, 62, 63, 64, 65, 66, 67, 68, 69, 70, 71, 72, 73, 74, 75, 76, 77, 78, 79, 80, 81, 82, 83, 84, 85, 86, 87, 88, 89, 90, 91, 92, 93, 94, 95, 96, 97, 98, 99, 100, 101, 102] (by decide +kernel) (by decide +kernel)
set_option maxRecDepth 20000 in
theorem gX6_doingOf_X6_worthOf : GoodIn wsX6_doingOf (wsV RX6 141 RX6 yX6_worthOf wsX6_worthOf) := goodIn_app (goodIn_of _ (by decide +kernel)) ggX6_doingOf_X6_worthOf
set_option maxRecDepth 20000 in
theorem ggX6_doingOf_X6_doingBy : GoodIn wsX6_doingOf wsX6_doingBy := goodIn_r _ [32, 33, 34, 35, 36, 37, 38, 39, 14, 40, 41, 42, 43, 2, 44, 45, 46, 47, 48, 49, 50, 51, 52, 53, 54, 55, 56, 57, 58, 59, 60, 61, 62, 63, 64, 65, 66, 67, 68, 69, 70, 71, 72, 73, 74, 75, 76, 77, 78, 79, 80, 81, 82, 83, 84, 85, 86, 87, 88, 89, 90, 91, 92, 93, 94, 95, 96, 97, 98, 99, 100, 101, 102] (by decide +kernel) (by decide +kernel)
set_option maxRecDepth 20000 in
theorem gX6_doingOf_X6_doingBy : GoodIn wsX6_doingOf (wsV RX6 254 RX6 yX6_doingBy wsX6_doingBy) := goodIn_app (goodIn_of _ (by decide +kernel)) ggX6_doingOf_X6_doingBy
theorem dX6_doingOf_0 : decode cX6_doingOf 0 = .ok (.aload_n 0, 1) := by decide +kernel
theorem dX6_doingOf_1 : decode cX6_doingOf 1 = .ok (.getfield 13, 3) := by decide +kernel
theorem dX6_doingOf_4 : decode cX6_doingOf 4 = .ok (.iload_n 1, 1) := by decide +kernel
theorem dX6_doingOf_5 : decode cX6_doingOf 5 = .ok (.iaload, 1) := by decide +kernel
theorem dX6_doingOf_6 : decode cX6_doingOf 6 = .ok (.istore_n 2, 1) := by decide +kernel
theorem dX6_doingOf_7 : decode cX6_doingOf 7 = .ok (.iload_n 2, 1) := by decide +kernel
theorem dX6_doingOf_8 : decode cX6_doingOf 8 = .ok (.ifCond .ne 5, 3) := by decide +kernel
theorem dX6_doingOf_11 : decode cX6_doingOf 11 = .ok (.iconst 0, 1) := by decide +kernel
theorem dX6_doingOf_12 : decode cX6_doingOf 12 = .ok (.ireturn, 1) := by decide +kernel
theorem dX6_doingOf_13 : decode cX6_doingOf 13 = .ok (.aload_n 0, 1) := by decide +kernel
theorem dX6_doingOf_14 : decode cX6_doingOf 14 = .ok (.iload_n 1, 1) := by decide +kernel
theorem dX6_doingOf_15 : decode cX6_doingOf 15 = .ok (.invokevirtual 245, 3) := by decide +kernel
theorem dX6_doingOf_18 : decode cX6_doingOf 18 = .ok (.istore_n 3, 1) := by decide +kernel
theorem dX6_doingOf_19 : decode cX6_doingOf 19 = .ok (.aload_n 0, 1) := by decide +kernel
theorem dX6_doingOf_20 : decode cX6_doingOf 20 = .ok (.iload_n 1, 1) := by decide +kernel
theorem dX6_doingOf_21 : decode cX6_doingOf 21 = .ok (.invokevirtual 248, 3) := by decide +kernel
theorem dX6_doingOf_24 : decode cX6_doingOf 24 = .ok (.istore 4, 2) := by decide +kernel
theorem dX6_doingOf_26 : decode cX6_doingOf 26 = .ok (.aload_n 0, 1) := by decide +kernel
theorem dX6_doingOf_27 : decode cX6_doingOf 27 = .ok (.getfield 86, 3) := by decide +kernel
theorem dX6_doingOf_30 : decode cX6_doingOf 30 = .ok (.iconst 0, 1) := by decide +kernel
theorem dX6_doingOf_31 : decode cX6_doingOf 31 = .ok (.iload_n 2, 1) := by decide +kernel
theorem dX6_doingOf_32 : decode cX6_doingOf 32 = .ok (.iastore, 1) := by decide +kernel
theorem dX6_doingOf_33 : decode cX6_doingOf 33 = .ok (.aload_n 0, 1) := by decide +kernel
theorem dX6_doingOf_34 : decode cX6_doingOf 34 = .ok (.getfield 86, 3) := by decide +kernel
theorem dX6_doingOf_37 : decode cX6_doingOf 37 = .ok (.iconst 1, 1) := by decide +kernel
theorem dX6_doingOf_38 : decode cX6_doingOf 38 = .ok (.aload_n 0, 1) := by decide +kernel
theorem dX6_doingOf_39 : decode cX6_doingOf 39 = .ok (.getfield 13, 3) := by decide +kernel
theorem dX6_doingOf_42 : decode cX6_doingOf 42 = .ok (.iload_n 3, 1) := by decide +kernel
theorem dX6_doingOf_43 : decode cX6_doingOf 43 = .ok (.iaload, 1) := by decide +kernel
theorem dX6_doingOf_44 : decode cX6_doingOf 44 = .ok (.iastore, 1) := by decide +kernel
theorem dX6_doingOf_45 : decode cX6_doingOf 45 = .ok (.aload_n 0, 1) := by decide +kernel
theorem dX6_doingOf_46 : decode cX6_doingOf 46 = .ok (.getfield 86, 3) := by decide +kernel
theorem dX6_doingOf_49 : decode cX6_doingOf 49 = .ok (.iconst 2, 1) := by decide +kernel
theorem dX6_doingOf_50 : decode cX6_doingOf 50 = .ok (.aload_n 0, 1) := by decide +kernel
theorem dX6_doingOf_51 : decode cX6_doingOf 51 = .ok (.getfield 13, 3) := by decide +kernel
theorem dX6_doingOf_54 : decode cX6_doingOf 54 = .ok (.iload 4, 2) := by decide +kernel
theorem dX6_doingOf_56 : decode cX6_doingOf 56 = .ok (.iaload, 1) := by decide +kernel
theorem dX6_doingOf_57 : decode cX6_doingOf 57 = .ok (.iastore, 1) := by decide +kernel
theorem dX6_doingOf_58 : decode cX6_doingOf 58 = .ok (.aload_n 0, 1) := by decide +kernel
theorem dX6_doingOf_59 : decode cX6_doingOf 59 = .ok (.getfield 86, 3) := by decide +kernel
theorem dX6_doingOf_62 : decode cX6_doingOf 62 = .ok (.iconst 3, 1) := by decide +kernel
theorem dX6_doingOf_63 : decode cX6_doingOf 63 = .ok (.aload_n 0, 1) := by decide +kernel
theorem dX6_doingOf_64 : decode cX6_doingOf 64 = .ok (.iload_n 2, 1) := by decide +kernel
theorem dX6_doingOf_65 : decode cX6_doingOf 65 = .ok (.aload_n 0, 1) := by decide +kernel
theorem dX6_doingOf_66 : decode cX6_doingOf 66 = .ok (.getfield 53, 3) := by decide +kernel
theorem dX6_doingOf_69 : decode cX6_doingOf 69 = .ok (.bipush 9, 2) := by decide +kernel
theorem dX6_doingOf_71 : decode cX6_doingOf 71 = .ok (.iaload, 1) := by decide +kernel
theorem dX6_doingOf_72 : decode cX6_doingOf 72 = .ok (.iadd, 1) := by decide +kernel
theorem dX6_doingOf_73 : decode cX6_doingOf 73 = .ok (.invokevirtual 141, 3) := by decide +kernel
theorem dX6_doingOf_76 : decode cX6_doingOf 76 = .ok (.aload_n 0, 1) := by decide +kernel
theorem dX6_doingOf_77 : decode cX6_doingOf 77 = .ok (.iload_n 2, 1) := by decide +kernel
theorem dX6_doingOf_78 : decode cX6_doingOf 78 = .ok (.invokevirtual 141, 3) := by decide +kernel
theorem dX6_doingOf_81 : decode cX6_doingOf 81 = .ok (.isub, 1) := by decide +kernel
theorem dX6_doingOf_82 : decode cX6_doingOf 82 = .ok (.iastore, 1) := by decide +kernel
theorem dX6_doingOf_83 : decode cX6_doingOf 83 = .ok (.aload_n 0, 1) := by decide +kernel
theorem dX6_doingOf_84 : decode cX6_doingOf 84 = .ok (.getfield 86, 3) := by decide +kernel
theorem dX6_doingOf_87 : decode cX6_doingOf 87 = .ok (.iconst 4, 1) := by decide +kernel
theorem dX6_doingOf_88 : decode cX6_doingOf 88 = .ok (.aload_n 0, 1) := by decide +kernel
theorem dX6_doingOf_89 : decode cX6_doingOf 89 = .ok (.iload_n 2, 1) := by decide +kernel
theorem dX6_doingOf_90 : decode cX6_doingOf 90 = .ok (.invokevirtual 141, 3) := by decide +kernel
theorem dX6_doingOf_93 : decode cX6_doingOf 93 = .ok (.aload_n 0, 1) := by decide +kernel
theorem dX6_doingOf_94 : decode cX6_doingOf 94 = .ok (.iload_n 2, 1) := by decide +kernel
theorem dX6_doingOf_95 : decode cX6_doingOf 95 = .ok (.aload_n 0, 1) := by decide +kernel
theorem dX6_doingOf_96 : decode cX6_doingOf 96 = .ok (.getfield 53, 3) := by decide +kernel
theorem dX6_doingOf_99 : decode cX6_doingOf 99 = .ok (.bipush 9, 2) := by decide +kernel
theorem dX6_doingOf_101 : decode cX6_doingOf 101 = .ok (.iaload, 1) := by decide +kernel
theorem dX6_doingOf_102 : decode cX6_doingOf 102 = .ok (.if_icmp .le 15, 3) := by decide +kernel
theorem dX6_doingOf_105 : decode cX6_doingOf 105 = .ok (.iload_n 2, 1) := by decide +kernel
theorem dX6_doingOf_106 : decode cX6_doingOf 106 = .ok (.aload_n 0, 1) := by decide +kernel
theorem dX6_doingOf_107 : decode cX6_doingOf 107 = .ok (.getfield 53, 3) := by decide +kernel
theorem dX6_doingOf_110 : decode cX6_doingOf 110 = .ok (.bipush 9, 2) := by decide +kernel
theorem dX6_doingOf_112 : decode cX6_doingOf 112 = .ok (.iaload, 1) := by decide +kernel
theorem dX6_doingOf_113 : decode cX6_doingOf 113 = .ok (.isub, 1) := by decide +kernel
theorem dX6_doingOf_114 : decode cX6_doingOf 114 = .ok (.goto 4, 3) := by decide +kernel
theorem dX6_doingOf_117 : decode cX6_doingOf 117 = .ok (.iconst 0, 1) := by decide +kernel
theorem dX6_doingOf_118 : decode cX6_doingOf 118 = .ok (.invokevirtual 141, 3) := by decide +kernel
theorem dX6_doingOf_121 : decode cX6_doingOf 121 = .ok (.isub, 1) := by decide +kernel
theorem dX6_doingOf_122 : decode cX6_doingOf 122 = .ok (.iastore, 1) := by decide +kernel
theorem dX6_doingOf_123 : decode cX6_doingOf 123 = .ok (.aload_n 0, 1) := by decide +kernel
theorem dX6_doingOf_124 : decode cX6_doingOf 124 = .ok (.getfield 86, 3) := by decide +kernel
theorem dX6_doingOf_127 : decode cX6_doingOf 127 = .ok (.iconst 5, 1) := by decide +kernel
theorem dX6_doingOf_128 : decode cX6_doingOf 128 = .ok (.aload_n 0, 1) := by decide +kernel
theorem dX6_doingOf_129 : decode cX6_doingOf 129 = .ok (.getfield 251, 3) := by decide +kernel
theorem dX6_doingOf_132 : decode cX6_doingOf 132 = .ok (.iastore, 1) := by decide +kernel
theorem dX6_doingOf_133 : decode cX6_doingOf 133 = .ok (.aload_n 0, 1) := by decide +kernel
theorem dX6_doingOf_134 : decode cX6_doingOf 134 = .ok (.getfield 86, 3) := by decide +kernel
theorem dX6_doingOf_137 : decode cX6_doingOf 137 = .ok (.bipush 6, 2) := by decide +kernel
theorem dX6_doingOf_139 : decode cX6_doingOf 139 = .ok (.aload_n 0, 1) := by decide +kernel
theorem dX6_doingOf_140 : decode cX6_doingOf 140 = .ok (.getfield 29, 3) := by decide +kernel
theorem dX6_doingOf_143 : decode cX6_doingOf 143 = .ok (.iload_n 1, 1) := by decide +kernel
theorem dX6_doingOf_144 : decode cX6_doingOf 144 = .ok (.iaload, 1) := by decide +kernel
theorem dX6_doingOf_145 : decode cX6_doingOf 145 = .ok (.iastore, 1) := by decide +kernel
theorem dX6_doingOf_146 : decode cX6_doingOf 146 = .ok (.aload_n 0, 1) := by decide +kernel
theorem dX6_doingOf_147 : decode cX6_doingOf 147 = .ok (.getfield 86, 3) := by decide +kernel
theorem dX6_doingOf_150 : decode cX6_doingOf 150 = .ok (.bipush 7, 2) := by decide +kernel
theorem dX6_doingOf_152 : decode cX6_doingOf 152 = .ok (.aload_n 0, 1) := by decide +kernel
theorem dX6_doingOf_153 : decode cX6_doingOf 153 = .ok (.getfield 23, 3) := by decide +kernel
theorem dX6_doingOf_156 : decode cX6_doingOf 156 = .ok (.iload_n 1, 1) := by decide +kernel
theorem dX6_doingOf_157 : decode cX6_doingOf 157 = .ok (.iaload, 1) := by decide +kernel
theorem dX6_doingOf_158 : decode cX6_doingOf 158 = .ok (.iastore, 1) := by decide +kernel
theorem dX6_doingOf_159 : decode cX6_doingOf 159 = .ok (.aload_n 0, 1) := by decide +kernel
theorem dX6_doingOf_160 : decode cX6_doingOf 160 = .ok (.getfield 86, 3) := by decide +kernel
theorem dX6_doingOf_163 : decode cX6_doingOf 163 = .ok (.bipush 8, 2) := by decide +kernel
theorem dX6_doingOf_165 : decode cX6_doingOf 165 = .ok (.aload_n 0, 1) := by decide +kernel
theorem dX6_doingOf_166 : decode cX6_doingOf 166 = .ok (.getfield 23, 3) := by decide +kernel
theorem dX6_doingOf_169 : decode cX6_doingOf 169 = .ok (.iload_n 3, 1) := by decide +kernel
theorem dX6_doingOf_170 : decode cX6_doingOf 170 = .ok (.iaload, 1) := by decide +kernel
theorem dX6_doingOf_171 : decode cX6_doingOf 171 = .ok (.iastore, 1) := by decide +kernel
theorem dX6_doingOf_172 : decode cX6_doingOf 172 = .ok (.aload_n 0, 1) := by decide +kernel
theorem dX6_doingOf_173 : decode cX6_doingOf 173 = .ok (.getfield 86, 3) := by decide +kernel
theorem dX6_doingOf_176 : decode cX6_doingOf 176 = .ok (.bipush 9, 2) := by decide +kernel
theorem dX6_doingOf_178 : decode cX6_doingOf 178 = .ok (.aload_n 0, 1) := by decide +kernel
theorem dX6_doingOf_179 : decode cX6_doingOf 179 = .ok (.getfield 23, 3) := by decide +kernel
theorem dX6_doingOf_182 : decode cX6_doingOf 182 = .ok (.iload 4, 2) := by decide +kernel
theorem dX6_doingOf_184 : decode cX6_doingOf 184 = .ok (.iaload, 1) := by decide +kernel
theorem dX6_doingOf_185 : decode cX6_doingOf 185 = .ok (.iastore, 1) := by decide +kernel
theorem dX6_doingOf_186 : decode cX6_doingOf 186 = .ok (.aload_n 0, 1) := by decide +kernel
theorem dX6_doingOf_187 : decode cX6_doingOf 187 = .ok (.getfield 86, 3) := by decide +kernel
theorem dX6_doingOf_190 : decode cX6_doingOf 190 = .ok (.bipush 10, 2) := by decide +kernel
theorem dX6_doingOf_192 : decode cX6_doingOf 192 = .ok (.aload_n 0, 1) := by decide +kernel
theorem dX6_doingOf_193 : decode cX6_doingOf 193 = .ok (.getfield 20, 3) := by decide +kernel
theorem dX6_doingOf_196 : decode cX6_doingOf 196 = .ok (.iload_n 3, 1) := by decide +kernel
theorem dX6_doingOf_197 : decode cX6_doingOf 197 = .ok (.iaload, 1) := by decide +kernel
theorem dX6_doingOf_198 : decode cX6_doingOf 198 = .ok (.aload_n 0, 1) := by decide +kernel
theorem dX6_doingOf_199 : decode cX6_doingOf 199 = .ok (.getfield 20, 3) := by decide +kernel
theorem dX6_doingOf_202 : decode cX6_doingOf 202 = .ok (.iload_n 1, 1) := by decide +kernel
theorem dX6_doingOf_203 : decode cX6_doingOf 203 = .ok (.iaload, 1) := by decide +kernel
theorem dX6_doingOf_204 : decode cX6_doingOf 204 = .ok (.if_icmp .ne 7, 3) := by decide +kernel
theorem dX6_doingOf_207 : decode cX6_doingOf 207 = .ok (.iconst 1, 1) := by decide +kernel
theorem dX6_doingOf_208 : decode cX6_doingOf 208 = .ok (.goto 4, 3) := by decide +kernel
theorem dX6_doingOf_211 : decode cX6_doingOf 211 = .ok (.iconst 0, 1) := by decide +kernel
theorem dX6_doingOf_212 : decode cX6_doingOf 212 = .ok (.iastore, 1) := by decide +kernel
theorem dX6_doingOf_213 : decode cX6_doingOf 213 = .ok (.aload_n 0, 1) := by decide +kernel
theorem dX6_doingOf_214 : decode cX6_doingOf 214 = .ok (.getfield 86, 3) := by decide +kernel
theorem dX6_doingOf_217 : decode cX6_doingOf 217 = .ok (.bipush 11, 2) := by decide +kernel
theorem dX6_doingOf_219 : decode cX6_doingOf 219 = .ok (.aload_n 0, 1) := by decide +kernel
theorem dX6_doingOf_220 : decode cX6_doingOf 220 = .ok (.getfield 20, 3) := by decide +kernel
theorem dX6_doingOf_223 : decode cX6_doingOf 223 = .ok (.iload 4, 2) := by decide +kernel
theorem dX6_doingOf_225 : decode cX6_doingOf 225 = .ok (.iaload, 1) := by decide +kernel
theorem dX6_doingOf_226 : decode cX6_doingOf 226 = .ok (.aload_n 0, 1) := by decide +kernel
theorem dX6_doingOf_227 : decode cX6_doingOf 227 = .ok (.getfield 20, 3) := by decide +kernel
theorem dX6_doingOf_230 : decode cX6_doingOf 230 = .ok (.iload_n 1, 1) := by decide +kernel
theorem dX6_doingOf_231 : decode cX6_doingOf 231 = .ok (.iaload, 1) := by decide +kernel
theorem dX6_doingOf_232 : decode cX6_doingOf 232 = .ok (.if_icmp .ne 7, 3) := by decide +kernel
theorem dX6_doingOf_235 : decode cX6_doingOf 235 = .ok (.iconst 1, 1) := by decide +kernel
theorem dX6_doingOf_236 : decode cX6_doingOf 236 = .ok (.goto 4, 3) := by decide +kernel
theorem dX6_doingOf_239 : decode cX6_doingOf 239 = .ok (.iconst 0, 1) := by decide +kernel
theorem dX6_doingOf_240 : decode cX6_doingOf 240 = .ok (.iastore, 1) := by decide +kernel
theorem dX6_doingOf_241 : decode cX6_doingOf 241 = .ok (.aload_n 0, 1) := by decide +kernel
theorem dX6_doingOf_242 : decode cX6_doingOf 242 = .ok (.getfield 86, 3) := by decide +kernel
theorem dX6_doingOf_245 : decode cX6_doingOf 245 = .ok (.bipush 12, 2) := by decide +kernel
theorem dX6_doingOf_247 : decode cX6_doingOf 247 = .ok (.aload_n 0, 1) := by decide +kernel
theorem dX6_doingOf_248 : decode cX6_doingOf 248 = .ok (.getfield 38, 3) := by decide +kernel
theorem dX6_doingOf_251 : decode cX6_doingOf 251 = .ok (.iload_n 3, 1) := by decide +kernel
theorem dX6_doingOf_252 : decode cX6_doingOf 252 = .ok (.iaload, 1) := by decide +kernel
theorem dX6_doingOf_253 : decode cX6_doingOf 253 = .ok (.iastore, 1) := by decide +kernel
theorem dX6_doingOf_254 : decode cX6_doingOf 254 = .ok (.aload_n 0, 1) := by decide +kernel
theorem dX6_doingOf_255 : decode cX6_doingOf 255 = .ok (.getfield 86, 3) := by decide +kernel
theorem dX6_doingOf_258 : decode cX6_doingOf 258 = .ok (.bipush 13, 2) := by decide +kernel
theorem dX6_doingOf_260 : decode cX6_doingOf 260 = .ok (.aload_n 0, 1) := by decide +kernel
theorem dX6_doingOf_261 : decode cX6_doingOf 261 = .ok (.getfield 38, 3) := by decide +kernel
theorem dX6_doingOf_264 : decode cX6_doingOf 264 = .ok (.iload_n 1, 1) := by decide +kernel
theorem dX6_doingOf_265 : decode cX6_doingOf 265 = .ok (.iaload, 1) := by decide +kernel
theorem dX6_doingOf_266 : decode cX6_doingOf 266 = .ok (.iastore, 1) := by decide +kernel
theorem dX6_doingOf_267 : decode cX6_doingOf 267 = .ok (.aload_n 0, 1) := by decide +kernel
theorem dX6_doingOf_268 : decode cX6_doingOf 268 = .ok (.getfield 86, 3) := by decide +kernel
theorem dX6_doingOf_271 : decode cX6_doingOf 271 = .ok (.bipush 14, 2) := by decide +kernel
theorem dX6_doingOf_273 : decode cX6_doingOf 273 = .ok (.aload_n 0, 1) := by decide +kernel
theorem dX6_doingOf_274 : decode cX6_doingOf 274 = .ok (.getfield 26, 3) := by decide +kernel
theorem dX6_doingOf_277 : decode cX6_doingOf 277 = .ok (.iload_n 1, 1) := by decide +kernel
theorem dX6_doingOf_278 : decode cX6_doingOf 278 = .ok (.iaload, 1) := by decide +kernel
theorem dX6_doingOf_279 : decode cX6_doingOf 279 = .ok (.iastore, 1) := by decide +kernel
theorem dX6_doingOf_280 : decode cX6_doingOf 280 = .ok (.aload_n 0, 1) := by decide +kernel
theorem dX6_doingOf_281 : decode cX6_doingOf 281 = .ok (.aload_n 0, 1) := by decide +kernel
theorem dX6_doingOf_282 : decode cX6_doingOf 282 = .ok (.getfield 17, 3) := by decide +kernel
theorem dX6_doingOf_285 : decode cX6_doingOf 285 = .ok (.iload_n 1, 1) := by decide +kernel
theorem dX6_doingOf_286 : decode cX6_doingOf 286 = .ok (.iaload, 1) := by decide +kernel
theorem dX6_doingOf_287 : decode cX6_doingOf 287 = .ok (.invokevirtual 254, 3) := by decide +kernel
theorem dX6_doingOf_290 : decode cX6_doingOf 290 = .ok (.ireturn, 1) := by decide +kernel
set_option maxRecDepth 20000 in
theorem ggX6_isStopped_X6_draw : GoodIn wsX6_isStopped wsX6_draw := goodIn_r _ [8, 9, 10, 11, 12, 13, 14, 15, 16, 17, 18, 19, 20, 21, 22, 23, 24, 25, 26, 27, 28, 29, 30, 31, 32, 33, 34, 35, 36, 37, 38, 39, 40, 41, 42, 43, 44, 45, 46, 47, 48, 49, 50, 51, 52, 53, 54, 55, 56, 57, 58, 59, 60, 61, 62, 63, 64, 65, 66] (by decide +kernel) (by decide +kernel)
set_option maxRecDepth 20000 in
theorem gX6_isStopped_X6_draw : GoodIn wsX6_isStopped (wsV RX6 257 RX6 yX6_draw wsX6_draw) := goodIn_app (goodIn_of _ (by decide +kernel)) ggX6_isStopped_X6_draw
theorem dX6_isStopped_0 : decode cX6_isStopped 0 = .ok (.aload_n 0, 1) := by decide +kernel
theorem dX6_isStopped_1 : decode cX6_isStopped 1 = .ok (.getfield 92, 3) := by decide +kernel
theorem dX6_isStopped_4 : decode cX6_isStopped 4 = .ok (.iload_n 1, 1) := by decide +kernel
theorem dX6_isStopped_5 : decode cX6_isStopped 5 = .ok (.iaload, 1) := by decide +kernel
theorem dX6_isStopped_6 : decode cX6_isStopped 6 = .ok (.iconst 1, 1) := by decide +kernel
theorem dX6_isStopped_7 : decode cX6_isStopped 7 = .ok (.if_icmp .ne 26, 3) := by decide +kernel
theorem dX6_isStopped_10 : decode cX6_isStopped 10 = .ok (.aload_n 0, 1) := by decide +kernel
theorem dX6_isStopped_11 : decode cX6_isStopped 11 = .ok (.sipush 1000, 3) := by decide +kernel
theorem dX6_isStopped_14 : decode cX6_isStopped 14 = .ok (.invokevirtual 257, 3) := by decide +kernel
theorem dX6_isStopped_17 : decode cX6_isStopped 17 = .ok (.aload_n 0, 1) := by decide +kernel
theorem dX6_isStopped_18 : decode cX6_isStopped 18 = .ok (.getfield 53, 3) := by decide +kernel
theorem dX6_isStopped_21 : decode cX6_isStopped 21 = .ok (.bipush 7, 2) := by decide +kernel
theorem dX6_isStopped_23 : decode cX6_isStopped 23 = .ok (.iaload, 1) := by decide +kernel
theorem dX6_isStopped_24 : decode cX6_isStopped 24 = .ok (.if_icmp .ge 7, 3) := by decide +kernel
theorem dX6_isStopped_27 : decode cX6_isStopped 27 = .ok (.iconst 1, 1) := by decide +kernel
theorem dX6_isStopped_28 : decode cX6_isStopped 28 = .ok (.goto 4, 3) := by decide +kernel
theorem dX6_isStopped_31 : decode cX6_isStopped 31 = .ok (.iconst 0, 1) := by decide +kernel
theorem dX6_isStopped_32 : decode cX6_isStopped 32 = .ok (.ireturn, 1) := by decide +kernel
theorem dX6_isStopped_33 : decode cX6_isStopped 33 = .ok (.aload_n 0, 1) := by decide +kernel
theorem dX6_isStopped_34 : decode cX6_isStopped 34 = .ok (.getfield 23, 3) := by decide +kernel
theorem dX6_isStopped_37 : decode cX6_isStopped 37 = .ok (.iload_n 1, 1) := by decide +kernel
theorem dX6_isStopped_38 : decode cX6_isStopped 38 = .ok (.iaload, 1) := by decide +kernel
theorem dX6_isStopped_39 : decode cX6_isStopped 39 = .ok (.iconst 1, 1) := by decide +kernel
theorem dX6_isStopped_40 : decode cX6_isStopped 40 = .ok (.if_icmp .ne 24, 3) := by decide +kernel
theorem dX6_isStopped_43 : decode cX6_isStopped 43 = .ok (.aload_n 0, 1) := by decide +kernel
theorem dX6_isStopped_44 : decode cX6_isStopped 44 = .ok (.sipush 1000, 3) := by decide +kernel
theorem dX6_isStopped_47 : decode cX6_isStopped 47 = .ok (.invokevirtual 257, 3) := by decide +kernel
theorem dX6_isStopped_50 : decode cX6_isStopped 50 = .ok (.aload_n 0, 1) := by decide +kernel
theorem dX6_isStopped_51 : decode cX6_isStopped 51 = .ok (.getfield 53, 3) := by decide +kernel
theorem dX6_isStopped_54 : decode cX6_isStopped 54 = .ok (.bipush 8, 2) := by decide +kernel
theorem dX6_isStopped_56 : decode cX6_isStopped 56 = .ok (.iaload, 1) := by decide +kernel
theorem dX6_isStopped_57 : decode cX6_isStopped 57 = .ok (.if_icmp .ge 7, 3) := by decide +kernel
theorem dX6_isStopped_60 : decode cX6_isStopped 60 = .ok (.iconst 1, 1) := by decide +kernel
theorem dX6_isStopped_61 : decode cX6_isStopped 61 = .ok (.goto 4, 3) := by decide +kernel
theorem dX6_isStopped_64 : decode cX6_isStopped 64 = .ok (.iconst 0, 1) := by decide +kernel
theorem dX6_isStopped_65 : decode cX6_isStopped 65 = .ok (.ireturn, 1) := by decide +kernel
set_option maxRecDepth 20000 in
theorem ggX6_moves_X6_isStopped : GoodIn wsX6_moves wsX6_isStopped := goodIn_r _ [15, 16, 2, 17, 18, 19, 20, 14, 21, 22, 23, 24, 29, 30, 31, 32, 33, 34, 35, 36, 37, 38, 39, 40, 41, 42, 43, 44, 45, 46, 47, 48, 49, 50, 51, 52, 53, 54, 55, 56, 57, 58, 59, 60, 61, 62, 63, 64, 65, 66, 67, 68, 69, 70, 71, 72, 73, 74, 75, 76, 77, 78, 79, 80, 81, 82, 83] (by decide +kernel) (by decide +kernel)
set_option maxRecDepth 20000 in
theorem gX6_moves_X6_isStopped : GoodIn wsX6_moves (wsV RX6 260 RX6 yX6_isStopped wsX6_isStopped) := goodIn_app (goodIn_of _ (by decide +kernel)) ggX6_moves_X6_isStopped
set_option maxRecDepth 20000 in
theorem ggX6_moves_X6_less : GoodIn wsX6_moves wsX6_less := goodIn_r _ [28] (by decide +kernel) (by decide +kernel)
set_option maxRecDepth 20000 in
theorem gX6_moves_X6_less : GoodIn wsX6_moves (wsV RX6 137 RX6 yX6_less wsX6_less) := goodIn_app (goodIn_of _ (by decide +kernel)) ggX6_moves_X6_less
theorem dX6_moves_0 : decode cX6_moves 0 = .ok (.aload_n 0, 1) := by decide +kernel
theorem dX6_moves_1 : decode cX6_moves 1 = .ok (.getfield 38, 3) := by decide +kernel
theorem dX6_moves_4 : decode cX6_moves 4 = .ok (.iload_n 2, 1) := by decide +kernel
theorem dX6_moves_5 : decode cX6_moves 5 = .ok (.iaload, 1) := by decide +kernel
theorem dX6_moves_6 : decode cX6_moves 6 = .ok (.iconst 1, 1) := by decide +kernel
theorem dX6_moves_7 : decode cX6_moves 7 = .ok (.if_icmp .eq 22, 3) := by decide +kernel
theorem dX6_moves_10 : decode cX6_moves 10 = .ok (.aload_n 0, 1) := by decide +kernel
theorem dX6_moves_11 : decode cX6_moves 11 = .ok (.getfield 53, 3) := by decide +kernel
theorem dX6_moves_14 : decode cX6_moves 14 = .ok (.bipush 9, 2) := by decide +kernel
theorem dX6_moves_16 : decode cX6_moves 16 = .ok (.iaload, 1) := by decide +kernel
theorem dX6_moves_17 : decode cX6_moves 17 = .ok (.ifCond .eq 12, 3) := by decide +kernel
theorem dX6_moves_20 : decode cX6_moves 20 = .ok (.aload_n 0, 1) := by decide +kernel
theorem dX6_moves_21 : decode cX6_moves 21 = .ok (.getfield 13, 3) := by decide +kernel
theorem dX6_moves_24 : decode cX6_moves 24 = .ok (.iload_n 3, 1) := by decide +kernel
theorem dX6_moves_25 : decode cX6_moves 25 = .ok (.iaload, 1) := by decide +kernel
theorem dX6_moves_26 : decode cX6_moves 26 = .ok (.ifCond .ne 4, 3) := by decide +kernel
theorem dX6_moves_29 : decode cX6_moves 29 = .ok (.return_, 1) := by decide +kernel
theorem dX6_moves_30 : decode cX6_moves 30 = .ok (.aload_n 0, 1) := by decide +kernel
theorem dX6_moves_31 : decode cX6_moves 31 = .ok (.iload_n 3, 1) := by decide +kernel
theorem dX6_moves_32 : decode cX6_moves 32 = .ok (.invokevirtual 260, 3) := by decide +kernel
theorem dX6_moves_35 : decode cX6_moves 35 = .ok (.ifCond .eq 45, 3) := by decide +kernel
theorem dX6_moves_38 : decode cX6_moves 38 = .ok (.aload_n 0, 1) := by decide +kernel
theorem dX6_moves_39 : decode cX6_moves 39 = .ok (.getfield 32, 3) := by decide +kernel
theorem dX6_moves_42 : decode cX6_moves 42 = .ok (.iload_n 1, 1) := by decide +kernel
theorem dX6_moves_43 : decode cX6_moves 43 = .ok (.aload_n 0, 1) := by decide +kernel
theorem dX6_moves_44 : decode cX6_moves 44 = .ok (.getfield 32, 3) := by decide +kernel
theorem dX6_moves_47 : decode cX6_moves 47 = .ok (.iload_n 1, 1) := by decide +kernel
theorem dX6_moves_48 : decode cX6_moves 48 = .ok (.iaload, 1) := by decide +kernel
theorem dX6_moves_49 : decode cX6_moves 49 = .ok (.iconst 1, 1) := by decide +kernel
theorem dX6_moves_50 : decode cX6_moves 50 = .ok (.iadd, 1) := by decide +kernel
theorem dX6_moves_51 : decode cX6_moves 51 = .ok (.iastore, 1) := by decide +kernel
theorem dX6_moves_52 : decode cX6_moves 52 = .ok (.aload_n 0, 1) := by decide +kernel
theorem dX6_moves_53 : decode cX6_moves 53 = .ok (.getfield 26, 3) := by decide +kernel
theorem dX6_moves_56 : decode cX6_moves 56 = .ok (.iload_n 1, 1) := by decide +kernel
theorem dX6_moves_57 : decode cX6_moves 57 = .ok (.aload_n 0, 1) := by decide +kernel
theorem dX6_moves_58 : decode cX6_moves 58 = .ok (.getfield 26, 3) := by decide +kernel
theorem dX6_moves_61 : decode cX6_moves 61 = .ok (.iload_n 1, 1) := by decide +kernel
theorem dX6_moves_62 : decode cX6_moves 62 = .ok (.iaload, 1) := by decide +kernel
theorem dX6_moves_63 : decode cX6_moves 63 = .ok (.aload_n 0, 1) := by decide +kernel
theorem dX6_moves_64 : decode cX6_moves 64 = .ok (.getfield 53, 3) := by decide +kernel
theorem dX6_moves_67 : decode cX6_moves 67 = .ok (.bipush 6, 2) := by decide +kernel
theorem dX6_moves_69 : decode cX6_moves 69 = .ok (.iaload, 1) := by decide +kernel
theorem dX6_moves_70 : decode cX6_moves 70 = .ok (.isub, 1) := by decide +kernel
theorem dX6_moves_71 : decode cX6_moves 71 = .ok (.iastore, 1) := by decide +kernel
theorem dX6_moves_72 : decode cX6_moves 72 = .ok (.aload_n 0, 1) := by decide +kernel
theorem dX6_moves_73 : decode cX6_moves 73 = .ok (.getfield 44, 3) := by decide +kernel
theorem dX6_moves_76 : decode cX6_moves 76 = .ok (.iload_n 2, 1) := by decide +kernel
theorem dX6_moves_77 : decode cX6_moves 77 = .ok (.iconst 0, 1) := by decide +kernel
theorem dX6_moves_78 : decode cX6_moves 78 = .ok (.iastore, 1) := by decide +kernel
theorem dX6_moves_79 : decode cX6_moves 79 = .ok (.return_, 1) := by decide +kernel
theorem dX6_moves_80 : decode cX6_moves 80 = .ok (.aload_n 0, 1) := by decide +kernel
theorem dX6_moves_81 : decode cX6_moves 81 = .ok (.getfield 44, 3) := by decide +kernel
theorem dX6_moves_84 : decode cX6_moves 84 = .ok (.iload_n 2, 1) := by decide +kernel
theorem dX6_moves_85 : decode cX6_moves 85 = .ok (.aload_n 0, 1) := by decide +kernel
theorem dX6_moves_86 : decode cX6_moves 86 = .ok (.getfield 47, 3) := by decide +kernel
theorem dX6_moves_89 : decode cX6_moves 89 = .ok (.iload_n 2, 1) := by decide +kernel
theorem dX6_moves_90 : decode cX6_moves 90 = .ok (.iaload, 1) := by decide +kernel
theorem dX6_moves_91 : decode cX6_moves 91 = .ok (.iload_n 1, 1) := by decide +kernel
theorem dX6_moves_92 : decode cX6_moves 92 = .ok (.if_icmp .ne 14, 3) := by decide +kernel
theorem dX6_moves_95 : decode cX6_moves 95 = .ok (.aload_n 0, 1) := by decide +kernel
theorem dX6_moves_96 : decode cX6_moves 96 = .ok (.getfield 44, 3) := by decide +kernel
theorem dX6_moves_99 : decode cX6_moves 99 = .ok (.iload_n 2, 1) := by decide +kernel
theorem dX6_moves_100 : decode cX6_moves 100 = .ok (.iaload, 1) := by decide +kernel
theorem dX6_moves_101 : decode cX6_moves 101 = .ok (.iconst 1, 1) := by decide +kernel
theorem dX6_moves_102 : decode cX6_moves 102 = .ok (.iadd, 1) := by decide +kernel
theorem dX6_moves_103 : decode cX6_moves 103 = .ok (.goto 4, 3) := by decide +kernel
theorem dX6_moves_106 : decode cX6_moves 106 = .ok (.iconst 1, 1) := by decide +kernel
theorem dX6_moves_107 : decode cX6_moves 107 = .ok (.iastore, 1) := by decide +kernel
theorem dX6_moves_108 : decode cX6_moves 108 = .ok (.aload_n 0, 1) := by decide +kernel
theorem dX6_moves_109 : decode cX6_moves 109 = .ok (.getfield 47, 3) := by decide +kernel
theorem dX6_moves_112 : decode cX6_moves 112 = .ok (.iload_n 2, 1) := by decide +kernel
theorem dX6_moves_113 : decode cX6_moves 113 = .ok (.iload_n 1, 1) := by decide +kernel
theorem dX6_moves_114 : decode cX6_moves 114 = .ok (.iastore, 1) := by decide +kernel
theorem dX6_moves_115 : decode cX6_moves 115 = .ok (.aload_n 0, 1) := by decide +kernel
theorem dX6_moves_116 : decode cX6_moves 116 = .ok (.getfield 44, 3) := by decide +kernel
theorem dX6_moves_119 : decode cX6_moves 119 = .ok (.iload_n 2, 1) := by decide +kernel
theorem dX6_moves_120 : decode cX6_moves 120 = .ok (.iaload, 1) := by decide +kernel
theorem dX6_moves_121 : decode cX6_moves 121 = .ok (.aload_n 0, 1) := by decide +kernel
theorem dX6_moves_122 : decode cX6_moves 122 = .ok (.getfield 41, 3) := by decide +kernel
theorem dX6_moves_125 : decode cX6_moves 125 = .ok (.iload_n 2, 1) := by decide +kernel
theorem dX6_moves_126 : decode cX6_moves 126 = .ok (.iaload, 1) := by decide +kernel
theorem dX6_moves_127 : decode cX6_moves 127 = .ok (.if_icmp .gt 4, 3) := by decide +kernel
theorem dX6_moves_130 : decode cX6_moves 130 = .ok (.return_, 1) := by decide +kernel
theorem dX6_moves_131 : decode cX6_moves 131 = .ok (.aload_n 0, 1) := by decide +kernel
theorem dX6_moves_132 : decode cX6_moves 132 = .ok (.aload_n 0, 1) := by decide +kernel
theorem dX6_moves_133 : decode cX6_moves 133 = .ok (.getfield 53, 3) := by decide +kernel
theorem dX6_moves_136 : decode cX6_moves 136 = .ok (.bipush 9, 2) := by decide +kernel
theorem dX6_moves_138 : decode cX6_moves 138 = .ok (.iaload, 1) := by decide +kernel
theorem dX6_moves_139 : decode cX6_moves 139 = .ok (.aload_n 0, 1) := by decide +kernel
theorem dX6_moves_140 : decode cX6_moves 140 = .ok (.getfield 13, 3) := by decide +kernel
theorem dX6_moves_143 : decode cX6_moves 143 = .ok (.iload_n 3, 1) := by decide +kernel
theorem dX6_moves_144 : decode cX6_moves 144 = .ok (.iaload, 1) := by decide +kernel
theorem dX6_moves_145 : decode cX6_moves 145 = .ok (.invokevirtual 137, 3) := by decide +kernel
theorem dX6_moves_148 : decode cX6_moves 148 = .ok (.istore 4, 2) := by decide +kernel
theorem dX6_moves_150 : decode cX6_moves 150 = .ok (.aload_n 0, 1) := by decide +kernel
theorem dX6_moves_151 : decode cX6_moves 151 = .ok (.getfield 44, 3) := by decide +kernel
theorem dX6_moves_154 : decode cX6_moves 154 = .ok (.iload_n 2, 1) := by decide +kernel
theorem dX6_moves_155 : decode cX6_moves 155 = .ok (.iconst 0, 1) := by decide +kernel
theorem dX6_moves_156 : decode cX6_moves 156 = .ok (.iastore, 1) := by decide +kernel
theorem dX6_moves_157 : decode cX6_moves 157 = .ok (.aload_n 0, 1) := by decide +kernel
theorem dX6_moves_158 : decode cX6_moves 158 = .ok (.getfield 13, 3) := by decide +kernel
theorem dX6_moves_161 : decode cX6_moves 161 = .ok (.iload_n 3, 1) := by decide +kernel
theorem dX6_moves_162 : decode cX6_moves 162 = .ok (.aload_n 0, 1) := by decide +kernel
theorem dX6_moves_163 : decode cX6_moves 163 = .ok (.getfield 13, 3) := by decide +kernel
theorem dX6_moves_166 : decode cX6_moves 166 = .ok (.iload_n 3, 1) := by decide +kernel
theorem dX6_moves_167 : decode cX6_moves 167 = .ok (.iaload, 1) := by decide +kernel
theorem dX6_moves_168 : decode cX6_moves 168 = .ok (.iload 4, 2) := by decide +kernel
theorem dX6_moves_170 : decode cX6_moves 170 = .ok (.isub, 1) := by decide +kernel
theorem dX6_moves_171 : decode cX6_moves 171 = .ok (.iastore, 1) := by decide +kernel
theorem dX6_moves_172 : decode cX6_moves 172 = .ok (.aload_n 0, 1) := by decide +kernel
theorem dX6_moves_173 : decode cX6_moves 173 = .ok (.getfield 13, 3) := by decide +kernel
theorem dX6_moves_176 : decode cX6_moves 176 = .ok (.iload_n 1, 1) := by decide +kernel
theorem dX6_moves_177 : decode cX6_moves 177 = .ok (.aload_n 0, 1) := by decide +kernel
theorem dX6_moves_178 : decode cX6_moves 178 = .ok (.getfield 13, 3) := by decide +kernel
theorem dX6_moves_181 : decode cX6_moves 181 = .ok (.iload_n 1, 1) := by decide +kernel
theorem dX6_moves_182 : decode cX6_moves 182 = .ok (.iaload, 1) := by decide +kernel
theorem dX6_moves_183 : decode cX6_moves 183 = .ok (.iload 4, 2) := by decide +kernel
theorem dX6_moves_185 : decode cX6_moves 185 = .ok (.iadd, 1) := by decide +kernel
theorem dX6_moves_186 : decode cX6_moves 186 = .ok (.iastore, 1) := by decide +kernel
theorem dX6_moves_187 : decode cX6_moves 187 = .ok (.aload_n 0, 1) := by decide +kernel
theorem dX6_moves_188 : decode cX6_moves 188 = .ok (.getfield 95, 3) := by decide +kernel
theorem dX6_moves_191 : decode cX6_moves 191 = .ok (.iload_n 3, 1) := by decide +kernel
theorem dX6_moves_192 : decode cX6_moves 192 = .ok (.iconst 1, 1) := by decide +kernel
theorem dX6_moves_193 : decode cX6_moves 193 = .ok (.bastore, 1) := by decide +kernel
theorem dX6_moves_194 : decode cX6_moves 194 = .ok (.aload_n 0, 1) := by decide +kernel
theorem dX6_moves_195 : decode cX6_moves 195 = .ok (.aload_n 0, 1) := by decide +kernel
theorem dX6_moves_196 : decode cX6_moves 196 = .ok (.getfield 263, 3) := by decide +kernel
theorem dX6_moves_199 : decode cX6_moves 199 = .ok (.iload 4, 2) := by decide +kernel
theorem dX6_moves_201 : decode cX6_moves 201 = .ok (.iadd, 1) := by decide +kernel
theorem dX6_moves_202 : decode cX6_moves 202 = .ok (.putfield 263, 3) := by decide +kernel
theorem dX6_moves_205 : decode cX6_moves 205 = .ok (.return_, 1) := by decide +kernel
set_option maxRecDepth 20000 in
theorem ggX6_goesBy_X6_doingOf : GoodIn wsX6_goesBy wsX6_doingOf := goodIn_r _ [15, 6, 16, 4, 10, 8, 7, 17, 18, 5, 19, 20, 21, 22, 14, 23, 1, 24, 25, 26, 27, 28, 29, 30, 31, 32, 33, 34, 35, 36, 37, 38, 39, 40, 41, 42, 43, 44, 45, 46, 47, 48, 49, 50, 51, 52, 53, 54, 75, 76, 77, 78, 79, 80, 81, 82, 83, 84, 85, 86, 87, 88, 89, 90, 91, 92, 93, 94, 95, 96, 97, 98, 99, 100, 101, 102, 103, 104, 105, 106, 107, 108, 109, 110, 111, 112, 113, 114, 115, 116, 117, 118, 119, 120, 121, 122, 123, 124, 125, 126, 127, 128, 129] (by decide +kernel) (by decide +kernel)
set_option maxRecDepth 20000 in
theorem gX6_goesBy_X6_doingOf : GoodIn wsX6_goesBy (wsV RX6 266 RX6 yX6_doingOf wsX6_doingOf) := goodIn_app (goodIn_of _ (by decide +kernel)) ggX6_goesBy_X6_doingOf
set_option maxRecDepth 20000 in
theorem ggX6_goesBy_X6_leftOf : GoodIn wsX6_goesBy wsX6_leftOf := goodIn_r _ [23, 1, 75, 76, 77, 78, 79, 80, 81, 82, 83, 84, 85, 86, 87, 88, 89, 90, 91, 92, 93, 94, 95, 96, 97, 98, 99, 100, 101, 102, 103, 104, 105, 106, 107, 108, 109, 110, 111, 112, 113, 114, 115, 116, 117, 118, 119, 120, 121, 122, 123, 124, 125, 126, 127, 128, 129] (by decide +kernel) (by decide +kernel)
set_option maxRecDepth 20000 in
theorem gX6_goesBy_X6_leftOf : GoodIn wsX6_goesBy (wsV RX6 245 RX6 yX6_leftOf wsX6_leftOf) := goodIn_app (goodIn_of _ (by decide +kernel)) ggX6_goesBy_X6_leftOf
set_option maxRecDepth 20000 in
theorem ggX6_goesBy_X6_moves : GoodIn wsX6_goesBy wsX6_moves := goodIn_r _ [58, 18, 4, 6, 59, 5, 60, 61, 62, 3, 63, 64, 65, 66, 14, 67, 2, 7, 68, 69, 70, 71, 72, 73, 74, 32, 33, 34, 35, 75, 76, 77, 78, 79, 80, 81, 82, 83, 84, 85, 86, 87, 88, 89, 90, 91, 92, 93, 94, 95, 96, 97, 98, 99, 100, 101, 102, 103, 104, 105, 106, 107, 108, 109, 110, 111, 112, 113, 114, 115, 116, 117, 118, 119, 120, 121, 122, 123, 124, 125, 126, 127, 128, 129] (by decide +kernel) (by decide +kernel)
set_option maxRecDepth 20000 in
theorem gX6_goesBy_X6_moves : GoodIn wsX6_goesBy (wsV RX6 269 RX6 yX6_moves wsX6_moves) := goodIn_app (goodIn_of _ (by decide +kernel)) ggX6_goesBy_X6_moves
set_option maxRecDepth 20000 in
theorem ggX6_goesBy_X6_rightOf : GoodIn wsX6_goesBy wsX6_rightOf := goodIn_r _ [27, 1, 75, 76, 77, 78, 79, 80, 81, 82, 83, 84, 85, 86, 87, 88, 89, 90, 91, 92, 93, 94, 95, 96, 97, 98, 99, 100, 101, 102, 103, 104, 105, 106, 107, 108, 109, 110, 111, 112, 113, 114, 115, 116, 117, 118, 119, 120, 121, 122, 123, 124, 125, 126, 127, 128, 129] (by decide +kernel) (by decide +kernel)
set_option maxRecDepth 20000 in
theorem gX6_goesBy_X6_rightOf : GoodIn wsX6_goesBy (wsV RX6 248 RX6 yX6_rightOf wsX6_rightOf) := goodIn_app (goodIn_of _ (by decide +kernel)) ggX6_goesBy_X6_rightOf
set_option maxRecDepth 20000 in
theorem ggX6_goesBy_X6_worthOf : GoodIn wsX6_goesBy wsX6_worthOf := goodIn_r _ [31, 4, 32, 33, 34, 14, 35, 75, 76, 77, 78, 79, 80, 81, 82, 83, 84, 85, 86, 87, 88, 89, 90, 91, 92, 93, 94, 95, 96, 97, 98, 99, 100, 101, 102, 103, 104, 105, 106, 107, 108, 109, 110, 111, 112, 113, 114, 115, 116, 117, 118, 119, 120, 121, 122, 123, 124, 125, 126, 127, 128, 129] (by decide +kernel) (by decide +kernel)
set_option maxRecDepth 20000 in
theorem gX6_goesBy_X6_worthOf : GoodIn wsX6_goesBy (wsV RX6 141 RX6 yX6_worthOf wsX6_worthOf) := goodIn_app (goodIn_of _ (by decide +kernel)) ggX6_goesBy_X6_worthOf
set_option maxRecDepth 20000 in
theorem ggX6_goesBy_X6_less : GoodIn wsX6_goesBy wsX6_less := goodIn_r _ [35] (by decide +kernel) (by decide +kernel)
set_option maxRecDepth 20000 in
theorem gX6_goesBy_X6_less : GoodIn wsX6_goesBy (wsV RX6 137 RX6 yX6_less wsX6_less) := goodIn_app (goodIn_of _ (by decide +kernel)) ggX6_goesBy_X6_less
theorem dX6_goesBy_0 : decode cX6_goesBy 0 = .ok (.iconst 0, 1) := by decide +kernel
theorem dX6_goesBy_1 : decode cX6_goesBy 1 = .ok (.istore_n 1, 1) := by decide +kernel
theorem dX6_goesBy_2 : decode cX6_goesBy 2 = .ok (.iload_n 1, 1) := by decide +kernel
theorem dX6_goesBy_3 : decode cX6_goesBy 3 = .ok (.aload_n 0, 1) := by decide +kernel
theorem dX6_goesBy_4 : decode cX6_goesBy 4 = .ok (.getfield 7, 3) := by decide +kernel
theorem dX6_goesBy_7 : decode cX6_goesBy 7 = .ok (.if_icmp .ge 27, 3) := by decide +kernel
theorem dX6_goesBy_10 : decode cX6_goesBy 10 = .ok (.aload_n 0, 1) := by decide +kernel
theorem dX6_goesBy_11 : decode cX6_goesBy 11 = .ok (.getfield 92, 3) := by decide +kernel
theorem dX6_goesBy_14 : decode cX6_goesBy 14 = .ok (.iload_n 1, 1) := by decide +kernel
theorem dX6_goesBy_15 : decode cX6_goesBy 15 = .ok (.aload_n 0, 1) := by decide +kernel
theorem dX6_goesBy_16 : decode cX6_goesBy 16 = .ok (.iload_n 1, 1) := by decide +kernel
theorem dX6_goesBy_17 : decode cX6_goesBy 17 = .ok (.invokevirtual 266, 3) := by decide +kernel
theorem dX6_goesBy_20 : decode cX6_goesBy 20 = .ok (.iastore, 1) := by decide +kernel
theorem dX6_goesBy_21 : decode cX6_goesBy 21 = .ok (.aload_n 0, 1) := by decide +kernel
theorem dX6_goesBy_22 : decode cX6_goesBy 22 = .ok (.getfield 95, 3) := by decide +kernel
theorem dX6_goesBy_25 : decode cX6_goesBy 25 = .ok (.iload_n 1, 1) := by decide +kernel
theorem dX6_goesBy_26 : decode cX6_goesBy 26 = .ok (.iconst 0, 1) := by decide +kernel
theorem dX6_goesBy_27 : decode cX6_goesBy 27 = .ok (.bastore, 1) := by decide +kernel
theorem dX6_goesBy_28 : decode cX6_goesBy 28 = .ok (.iinc 1 1, 3) := by decide +kernel
theorem dX6_goesBy_31 : decode cX6_goesBy 31 = .ok (.goto (-29), 3) := by decide +kernel
theorem dX6_goesBy_34 : decode cX6_goesBy 34 = .ok (.iconst 0, 1) := by decide +kernel
theorem dX6_goesBy_35 : decode cX6_goesBy 35 = .ok (.istore_n 1, 1) := by decide +kernel
theorem dX6_goesBy_36 : decode cX6_goesBy 36 = .ok (.iload_n 1, 1) := by decide +kernel
theorem dX6_goesBy_37 : decode cX6_goesBy 37 = .ok (.aload_n 0, 1) := by decide +kernel
theorem dX6_goesBy_38 : decode cX6_goesBy 38 = .ok (.getfield 7, 3) := by decide +kernel
theorem dX6_goesBy_41 : decode cX6_goesBy 41 = .ok (.if_icmp .ge 55, 3) := by decide +kernel
theorem dX6_goesBy_44 : decode cX6_goesBy 44 = .ok (.aload_n 0, 1) := by decide +kernel
theorem dX6_goesBy_45 : decode cX6_goesBy 45 = .ok (.getfield 92, 3) := by decide +kernel
theorem dX6_goesBy_48 : decode cX6_goesBy 48 = .ok (.iload_n 1, 1) := by decide +kernel
theorem dX6_goesBy_49 : decode cX6_goesBy 49 = .ok (.iaload, 1) := by decide +kernel
theorem dX6_goesBy_50 : decode cX6_goesBy 50 = .ok (.iconst 2, 1) := by decide +kernel
theorem dX6_goesBy_51 : decode cX6_goesBy 51 = .ok (.if_icmp .ne 18, 3) := by decide +kernel
theorem dX6_goesBy_54 : decode cX6_goesBy 54 = .ok (.aload_n 0, 1) := by decide +kernel
theorem dX6_goesBy_55 : decode cX6_goesBy 55 = .ok (.iload_n 1, 1) := by decide +kernel
theorem dX6_goesBy_56 : decode cX6_goesBy 56 = .ok (.aload_n 0, 1) := by decide +kernel
theorem dX6_goesBy_57 : decode cX6_goesBy 57 = .ok (.iload_n 1, 1) := by decide +kernel
theorem dX6_goesBy_58 : decode cX6_goesBy 58 = .ok (.invokevirtual 245, 3) := by decide +kernel
theorem dX6_goesBy_61 : decode cX6_goesBy 61 = .ok (.aload_n 0, 1) := by decide +kernel
theorem dX6_goesBy_62 : decode cX6_goesBy 62 = .ok (.iload_n 1, 1) := by decide +kernel
theorem dX6_goesBy_63 : decode cX6_goesBy 63 = .ok (.invokevirtual 245, 3) := by decide +kernel
theorem dX6_goesBy_66 : decode cX6_goesBy 66 = .ok (.invokevirtual 269, 3) := by decide +kernel
theorem dX6_goesBy_69 : decode cX6_goesBy 69 = .ok (.aload_n 0, 1) := by decide +kernel
theorem dX6_goesBy_70 : decode cX6_goesBy 70 = .ok (.getfield 92, 3) := by decide +kernel
theorem dX6_goesBy_73 : decode cX6_goesBy 73 = .ok (.iload_n 1, 1) := by decide +kernel
theorem dX6_goesBy_74 : decode cX6_goesBy 74 = .ok (.iaload, 1) := by decide +kernel
theorem dX6_goesBy_75 : decode cX6_goesBy 75 = .ok (.iconst 3, 1) := by decide +kernel
theorem dX6_goesBy_76 : decode cX6_goesBy 76 = .ok (.if_icmp .ne 14, 3) := by decide +kernel
theorem dX6_goesBy_79 : decode cX6_goesBy 79 = .ok (.aload_n 0, 1) := by decide +kernel
theorem dX6_goesBy_80 : decode cX6_goesBy 80 = .ok (.iload_n 1, 1) := by decide +kernel
theorem dX6_goesBy_81 : decode cX6_goesBy 81 = .ok (.iload_n 1, 1) := by decide +kernel
theorem dX6_goesBy_82 : decode cX6_goesBy 82 = .ok (.aload_n 0, 1) := by decide +kernel
theorem dX6_goesBy_83 : decode cX6_goesBy 83 = .ok (.iload_n 1, 1) := by decide +kernel
theorem dX6_goesBy_84 : decode cX6_goesBy 84 = .ok (.invokevirtual 248, 3) := by decide +kernel
theorem dX6_goesBy_87 : decode cX6_goesBy 87 = .ok (.invokevirtual 269, 3) := by decide +kernel
theorem dX6_goesBy_90 : decode cX6_goesBy 90 = .ok (.iinc 1 1, 3) := by decide +kernel
theorem dX6_goesBy_93 : decode cX6_goesBy 93 = .ok (.goto (-57), 3) := by decide +kernel
theorem dX6_goesBy_96 : decode cX6_goesBy 96 = .ok (.iconst 0, 1) := by decide +kernel
theorem dX6_goesBy_97 : decode cX6_goesBy 97 = .ok (.istore_n 1, 1) := by decide +kernel
theorem dX6_goesBy_98 : decode cX6_goesBy 98 = .ok (.iload_n 1, 1) := by decide +kernel
theorem dX6_goesBy_99 : decode cX6_goesBy 99 = .ok (.aload_n 0, 1) := by decide +kernel
theorem dX6_goesBy_100 : decode cX6_goesBy 100 = .ok (.getfield 7, 3) := by decide +kernel
theorem dX6_goesBy_103 : decode cX6_goesBy 103 = .ok (.if_icmp .ge 156, 3) := by decide +kernel
theorem dX6_goesBy_106 : decode cX6_goesBy 106 = .ok (.aload_n 0, 1) := by decide +kernel
theorem dX6_goesBy_107 : decode cX6_goesBy 107 = .ok (.getfield 92, 3) := by decide +kernel
theorem dX6_goesBy_110 : decode cX6_goesBy 110 = .ok (.iload_n 1, 1) := by decide +kernel
theorem dX6_goesBy_111 : decode cX6_goesBy 111 = .ok (.iaload, 1) := by decide +kernel
theorem dX6_goesBy_112 : decode cX6_goesBy 112 = .ok (.iconst 1, 1) := by decide +kernel
theorem dX6_goesBy_113 : decode cX6_goesBy 113 = .ok (.if_icmp .ne 12, 3) := by decide +kernel
theorem dX6_goesBy_116 : decode cX6_goesBy 116 = .ok (.aload_n 0, 1) := by decide +kernel
theorem dX6_goesBy_117 : decode cX6_goesBy 117 = .ok (.getfield 53, 3) := by decide +kernel
theorem dX6_goesBy_120 : decode cX6_goesBy 120 = .ok (.iconst 4, 1) := by decide +kernel
theorem dX6_goesBy_121 : decode cX6_goesBy 121 = .ok (.iaload, 1) := by decide +kernel
theorem dX6_goesBy_122 : decode cX6_goesBy 122 = .ok (.goto 22, 3) := by decide +kernel
theorem dX6_goesBy_125 : decode cX6_goesBy 125 = .ok (.aload_n 0, 1) := by decide +kernel
theorem dX6_goesBy_126 : decode cX6_goesBy 126 = .ok (.getfield 92, 3) := by decide +kernel
theorem dX6_goesBy_129 : decode cX6_goesBy 129 = .ok (.iload_n 1, 1) := by decide +kernel
theorem dX6_goesBy_130 : decode cX6_goesBy 130 = .ok (.iaload, 1) := by decide +kernel
theorem dX6_goesBy_131 : decode cX6_goesBy 131 = .ok (.ifCond .ne 7, 3) := by decide +kernel
theorem dX6_goesBy_134 : decode cX6_goesBy 134 = .ok (.iconst 0, 1) := by decide +kernel
theorem dX6_goesBy_135 : decode cX6_goesBy 135 = .ok (.goto 9, 3) := by decide +kernel
theorem dX6_goesBy_138 : decode cX6_goesBy 138 = .ok (.aload_n 0, 1) := by decide +kernel
theorem dX6_goesBy_139 : decode cX6_goesBy 139 = .ok (.getfield 53, 3) := by decide +kernel
theorem dX6_goesBy_142 : decode cX6_goesBy 142 = .ok (.iconst 3, 1) := by decide +kernel
theorem dX6_goesBy_143 : decode cX6_goesBy 143 = .ok (.iaload, 1) := by decide +kernel
theorem dX6_goesBy_144 : decode cX6_goesBy 144 = .ok (.istore_n 2, 1) := by decide +kernel
theorem dX6_goesBy_145 : decode cX6_goesBy 145 = .ok (.aload_n 0, 1) := by decide +kernel
theorem dX6_goesBy_146 : decode cX6_goesBy 146 = .ok (.getfield 26, 3) := by decide +kernel
theorem dX6_goesBy_149 : decode cX6_goesBy 149 = .ok (.iload_n 1, 1) := by decide +kernel
theorem dX6_goesBy_150 : decode cX6_goesBy 150 = .ok (.aload_n 0, 1) := by decide +kernel
theorem dX6_goesBy_151 : decode cX6_goesBy 151 = .ok (.getfield 26, 3) := by decide +kernel
theorem dX6_goesBy_154 : decode cX6_goesBy 154 = .ok (.iload_n 1, 1) := by decide +kernel
theorem dX6_goesBy_155 : decode cX6_goesBy 155 = .ok (.iaload, 1) := by decide +kernel
theorem dX6_goesBy_156 : decode cX6_goesBy 156 = .ok (.aload_n 0, 1) := by decide +kernel
theorem dX6_goesBy_157 : decode cX6_goesBy 157 = .ok (.aload_n 0, 1) := by decide +kernel
theorem dX6_goesBy_158 : decode cX6_goesBy 158 = .ok (.getfield 13, 3) := by decide +kernel
theorem dX6_goesBy_161 : decode cX6_goesBy 161 = .ok (.iload_n 1, 1) := by decide +kernel
theorem dX6_goesBy_162 : decode cX6_goesBy 162 = .ok (.iaload, 1) := by decide +kernel
theorem dX6_goesBy_163 : decode cX6_goesBy 163 = .ok (.invokevirtual 141, 3) := by decide +kernel
theorem dX6_goesBy_166 : decode cX6_goesBy 166 = .ok (.iadd, 1) := by decide +kernel
theorem dX6_goesBy_167 : decode cX6_goesBy 167 = .ok (.iload_n 2, 1) := by decide +kernel
theorem dX6_goesBy_168 : decode cX6_goesBy 168 = .ok (.isub, 1) := by decide +kernel
theorem dX6_goesBy_169 : decode cX6_goesBy 169 = .ok (.aload_n 0, 1) := by decide +kernel
theorem dX6_goesBy_170 : decode cX6_goesBy 170 = .ok (.getfield 23, 3) := by decide +kernel
theorem dX6_goesBy_173 : decode cX6_goesBy 173 = .ok (.iload_n 1, 1) := by decide +kernel
theorem dX6_goesBy_174 : decode cX6_goesBy 174 = .ok (.iaload, 1) := by decide +kernel
theorem dX6_goesBy_175 : decode cX6_goesBy 175 = .ok (.iconst 1, 1) := by decide +kernel
theorem dX6_goesBy_176 : decode cX6_goesBy 176 = .ok (.if_icmp .ne 12, 3) := by decide +kernel
theorem dX6_goesBy_179 : decode cX6_goesBy 179 = .ok (.aload_n 0, 1) := by decide +kernel
theorem dX6_goesBy_180 : decode cX6_goesBy 180 = .ok (.getfield 53, 3) := by decide +kernel
theorem dX6_goesBy_183 : decode cX6_goesBy 183 = .ok (.iconst 5, 1) := by decide +kernel
theorem dX6_goesBy_184 : decode cX6_goesBy 184 = .ok (.iaload, 1) := by decide +kernel
theorem dX6_goesBy_185 : decode cX6_goesBy 185 = .ok (.goto 4, 3) := by decide +kernel
theorem dX6_goesBy_188 : decode cX6_goesBy 188 = .ok (.iconst 0, 1) := by decide +kernel
theorem dX6_goesBy_189 : decode cX6_goesBy 189 = .ok (.isub, 1) := by decide +kernel
theorem dX6_goesBy_190 : decode cX6_goesBy 190 = .ok (.iastore, 1) := by decide +kernel
theorem dX6_goesBy_191 : decode cX6_goesBy 191 = .ok (.aload_n 0, 1) := by decide +kernel
theorem dX6_goesBy_192 : decode cX6_goesBy 192 = .ok (.getfield 29, 3) := by decide +kernel
theorem dX6_goesBy_195 : decode cX6_goesBy 195 = .ok (.iload_n 1, 1) := by decide +kernel
theorem dX6_goesBy_196 : decode cX6_goesBy 196 = .ok (.aload_n 0, 1) := by decide +kernel
theorem dX6_goesBy_197 : decode cX6_goesBy 197 = .ok (.getfield 95, 3) := by decide +kernel
theorem dX6_goesBy_200 : decode cX6_goesBy 200 = .ok (.iload_n 1, 1) := by decide +kernel
theorem dX6_goesBy_201 : decode cX6_goesBy 201 = .ok (.baload, 1) := by decide +kernel
theorem dX6_goesBy_202 : decode cX6_goesBy 202 = .ok (.ifCond .eq 7, 3) := by decide +kernel
theorem dX6_goesBy_205 : decode cX6_goesBy 205 = .ok (.iconst 0, 1) := by decide +kernel
theorem dX6_goesBy_206 : decode cX6_goesBy 206 = .ok (.goto 17, 3) := by decide +kernel
theorem dX6_goesBy_209 : decode cX6_goesBy 209 = .ok (.aload_n 0, 1) := by decide +kernel
theorem dX6_goesBy_210 : decode cX6_goesBy 210 = .ok (.bipush 99, 2) := by decide +kernel
theorem dX6_goesBy_212 : decode cX6_goesBy 212 = .ok (.aload_n 0, 1) := by decide +kernel
theorem dX6_goesBy_213 : decode cX6_goesBy 213 = .ok (.getfield 29, 3) := by decide +kernel
theorem dX6_goesBy_216 : decode cX6_goesBy 216 = .ok (.iload_n 1, 1) := by decide +kernel
theorem dX6_goesBy_217 : decode cX6_goesBy 217 = .ok (.iaload, 1) := by decide +kernel
theorem dX6_goesBy_218 : decode cX6_goesBy 218 = .ok (.iconst 1, 1) := by decide +kernel
theorem dX6_goesBy_219 : decode cX6_goesBy 219 = .ok (.iadd, 1) := by decide +kernel
theorem dX6_goesBy_220 : decode cX6_goesBy 220 = .ok (.invokevirtual 137, 3) := by decide +kernel
theorem dX6_goesBy_223 : decode cX6_goesBy 223 = .ok (.iastore, 1) := by decide +kernel
theorem dX6_goesBy_224 : decode cX6_goesBy 224 = .ok (.aload_n 0, 1) := by decide +kernel
theorem dX6_goesBy_225 : decode cX6_goesBy 225 = .ok (.getfield 13, 3) := by decide +kernel
theorem dX6_goesBy_228 : decode cX6_goesBy 228 = .ok (.iload_n 1, 1) := by decide +kernel
theorem dX6_goesBy_229 : decode cX6_goesBy 229 = .ok (.iaload, 1) := by decide +kernel
theorem dX6_goesBy_230 : decode cX6_goesBy 230 = .ok (.ifCond .ne 23, 3) := by decide +kernel
theorem dX6_goesBy_233 : decode cX6_goesBy 233 = .ok (.aload_n 0, 1) := by decide +kernel
theorem dX6_goesBy_234 : decode cX6_goesBy 234 = .ok (.getfield 35, 3) := by decide +kernel
theorem dX6_goesBy_237 : decode cX6_goesBy 237 = .ok (.iload_n 1, 1) := by decide +kernel
theorem dX6_goesBy_238 : decode cX6_goesBy 238 = .ok (.iaload, 1) := by decide +kernel
theorem dX6_goesBy_239 : decode cX6_goesBy 239 = .ok (.iconst (-1), 1) := by decide +kernel
theorem dX6_goesBy_240 : decode cX6_goesBy 240 = .ok (.if_icmp .ne 13, 3) := by decide +kernel
theorem dX6_goesBy_243 : decode cX6_goesBy 243 = .ok (.aload_n 0, 1) := by decide +kernel
theorem dX6_goesBy_244 : decode cX6_goesBy 244 = .ok (.getfield 35, 3) := by decide +kernel
theorem dX6_goesBy_247 : decode cX6_goesBy 247 = .ok (.iload_n 1, 1) := by decide +kernel
theorem dX6_goesBy_248 : decode cX6_goesBy 248 = .ok (.aload_n 0, 1) := by decide +kernel
theorem dX6_goesBy_249 : decode cX6_goesBy 249 = .ok (.getfield 251, 3) := by decide +kernel
theorem dX6_goesBy_252 : decode cX6_goesBy 252 = .ok (.iastore, 1) := by decide +kernel
theorem dX6_goesBy_253 : decode cX6_goesBy 253 = .ok (.iinc 1 1, 3) := by decide +kernel
theorem dX6_goesBy_256 : decode cX6_goesBy 256 = .ok (.goto (-158), 3) := by decide +kernel
theorem dX6_goesBy_259 : decode cX6_goesBy 259 = .ok (.aload_n 0, 1) := by decide +kernel
theorem dX6_goesBy_260 : decode cX6_goesBy 260 = .ok (.aload_n 0, 1) := by decide +kernel
theorem dX6_goesBy_261 : decode cX6_goesBy 261 = .ok (.getfield 251, 3) := by decide +kernel
theorem dX6_goesBy_264 : decode cX6_goesBy 264 = .ok (.iconst 1, 1) := by decide +kernel
theorem dX6_goesBy_265 : decode cX6_goesBy 265 = .ok (.iadd, 1) := by decide +kernel
theorem dX6_goesBy_266 : decode cX6_goesBy 266 = .ok (.putfield 251, 3) := by decide +kernel
theorem dX6_goesBy_269 : decode cX6_goesBy 269 = .ok (.return_, 1) := by decide +kernel
set_option maxRecDepth 20000 in
theorem ggX6_nights_X6_isIn : GoodIn wsX6_nights wsX6_isIn := goodIn_r _ [8] (by decide +kernel) (by decide +kernel)
set_option maxRecDepth 20000 in
theorem gX6_nights_X6_isIn : GoodIn wsX6_nights (wsV RX6 129 RX6 yX6_isIn wsX6_isIn) := goodIn_app (goodIn_of _ (by decide +kernel)) ggX6_nights_X6_isIn
set_option maxRecDepth 20000 in
theorem ggX6_nights_X6_goesBy : GoodIn wsX6_nights wsX6_goesBy := goodIn_r _ [12, 13, 14, 15, 16, 17, 18, 19, 20, 21, 2, 22, 23, 24, 7, 25, 26, 27, 28, 29, 30, 31, 32, 33, 34, 35, 36, 37, 38, 39, 40, 41, 42, 43, 44, 45, 46, 47, 48, 49, 50, 51, 52, 53, 54, 55, 56, 57, 58, 59, 60, 61, 62, 63, 64, 65, 66, 67, 68, 69, 70, 71, 72, 3, 73, 74, 75, 76, 77, 78, 79, 80, 81, 82, 83, 84, 85, 86, 87, 88, 89, 90, 91, 92, 93, 94, 95, 96, 97, 98, 99, 100, 101, 102, 103, 104, 105, 106, 107, 108, 109, 110, 111, 112, 113, 114, 115, 116, 117, 118, 119, 120, 121, 122, 123, 124, 125, 126, 127, 128, 129, 130, 131, 132, 133, 134, 135, 136, 137, 138] (by decide +kernel) (by decide +kernel)
set_option maxRecDepth 20000 in
theorem gX6_nights_X6_goesBy : GoodIn wsX6_nights (wsV RX6 273 RX6 yX6_goesBy wsX6_goesBy) := goodIn_app (goodIn_of _ (by decide +kernel)) ggX6_nights_X6_goesBy
theorem dX6_nights_0 : decode cX6_nights 0 = .ok (.aload_n 0, 1) := by decide +kernel
theorem dX6_nights_1 : decode cX6_nights 1 = .ok (.iconst 0, 1) := by decide +kernel
theorem dX6_nights_2 : decode cX6_nights 2 = .ok (.putfield 121, 3) := by decide +kernel
theorem dX6_nights_5 : decode cX6_nights 5 = .ok (.aload_n 0, 1) := by decide +kernel
theorem dX6_nights_6 : decode cX6_nights 6 = .ok (.iload_n 1, 1) := by decide +kernel
theorem dX6_nights_7 : decode cX6_nights 7 = .ok (.iconst 1, 1) := by decide +kernel
theorem dX6_nights_8 : decode cX6_nights 8 = .ok (.bipush 99, 2) := by decide +kernel
theorem dX6_nights_10 : decode cX6_nights 10 = .ok (.invokevirtual 129, 3) := by decide +kernel
theorem dX6_nights_13 : decode cX6_nights 13 = .ok (.ifCond .eq 15, 3) := by decide +kernel
theorem dX6_nights_16 : decode cX6_nights 16 = .ok (.aload_n 0, 1) := by decide +kernel
theorem dX6_nights_17 : decode cX6_nights 17 = .ok (.getfield 251, 3) := by decide +kernel
theorem dX6_nights_20 : decode cX6_nights 20 = .ok (.iload_n 1, 1) := by decide +kernel
theorem dX6_nights_21 : decode cX6_nights 21 = .ok (.iadd, 1) := by decide +kernel
theorem dX6_nights_22 : decode cX6_nights 22 = .ok (.sipush 9999, 3) := by decide +kernel
theorem dX6_nights_25 : decode cX6_nights 25 = .ok (.if_icmp .le 5, 3) := by decide +kernel
theorem dX6_nights_28 : decode cX6_nights 28 = .ok (.iconst (-1), 1) := by decide +kernel
theorem dX6_nights_29 : decode cX6_nights 29 = .ok (.ireturn, 1) := by decide +kernel
theorem dX6_nights_30 : decode cX6_nights 30 = .ok (.aload_n 0, 1) := by decide +kernel
theorem dX6_nights_31 : decode cX6_nights 31 = .ok (.getfield 263, 3) := by decide +kernel
theorem dX6_nights_34 : decode cX6_nights 34 = .ok (.istore_n 2, 1) := by decide +kernel
theorem dX6_nights_35 : decode cX6_nights 35 = .ok (.iconst 0, 1) := by decide +kernel
theorem dX6_nights_36 : decode cX6_nights 36 = .ok (.istore_n 3, 1) := by decide +kernel
theorem dX6_nights_37 : decode cX6_nights 37 = .ok (.iload_n 3, 1) := by decide +kernel
theorem dX6_nights_38 : decode cX6_nights 38 = .ok (.iload_n 1, 1) := by decide +kernel
theorem dX6_nights_39 : decode cX6_nights 39 = .ok (.if_icmp .ge 13, 3) := by decide +kernel
theorem dX6_nights_42 : decode cX6_nights 42 = .ok (.aload_n 0, 1) := by decide +kernel
theorem dX6_nights_43 : decode cX6_nights 43 = .ok (.invokevirtual 273, 3) := by decide +kernel
theorem dX6_nights_46 : decode cX6_nights 46 = .ok (.iinc 3 1, 3) := by decide +kernel
theorem dX6_nights_49 : decode cX6_nights 49 = .ok (.goto (-12), 3) := by decide +kernel
theorem dX6_nights_52 : decode cX6_nights 52 = .ok (.aload_n 0, 1) := by decide +kernel
theorem dX6_nights_53 : decode cX6_nights 53 = .ok (.getfield 263, 3) := by decide +kernel
theorem dX6_nights_56 : decode cX6_nights 56 = .ok (.iload_n 2, 1) := by decide +kernel
theorem dX6_nights_57 : decode cX6_nights 57 = .ok (.isub, 1) := by decide +kernel
theorem dX6_nights_58 : decode cX6_nights 58 = .ok (.ireturn, 1) := by decide +kernel
set_option maxRecDepth 20000 in
theorem ggX6_of_X6_isFarm : GoodIn wsX6_of wsX6_isFarm := goodIn_r _ [15, 16, 60, 61, 62, 63, 64, 65, 66, 67, 68, 69, 70, 71, 72, 73, 74, 75, 76, 77, 78, 79, 80, 81, 82, 83, 84, 85, 86, 87, 88, 89, 90, 91, 92, 93, 94, 95, 96, 97, 98, 99, 100, 101, 102, 103, 104, 105, 106, 107, 108, 109, 110, 111, 112, 113, 114] (by decide +kernel) (by decide +kernel)
set_option maxRecDepth 20000 in
theorem gX6_of_X6_isFarm : GoodIn wsX6_of (wsV RX6 133 RX6 yX6_isFarm wsX6_isFarm) := goodIn_app (goodIn_of _ (by decide +kernel)) ggX6_of_X6_isFarm
set_option maxRecDepth 20000 in
theorem ggX6_of_X6_doingOf : GoodIn wsX6_of wsX6_doingOf := goodIn_r _ [20, 3, 21, 22, 23, 8, 6, 5, 24, 7, 4, 25, 26, 27, 14, 28, 16, 29, 30, 31, 32, 33, 34, 35, 36, 37, 38, 39, 40, 41, 42, 43, 44, 45, 46, 47, 48, 49, 50, 51, 52, 53, 54, 55, 56, 57, 58, 59, 60, 61, 62, 63, 64, 65, 66, 67, 68, 69, 70, 71, 72, 73, 74, 75, 76, 77, 78, 79, 80, 81, 82, 83, 84, 85, 86, 87, 88, 89, 90, 91, 92, 93, 94, 95, 96, 97, 98, 99, 100, 101, 102, 103, 104, 105, 106, 107, 108, 109, 110, 111, 112, 113, 114] (by decide +kernel) (by decide +kernel)
set_option maxRecDepth 20000 in
theorem gX6_of_X6_doingOf : GoodIn wsX6_of (wsV RX6 266 RX6 yX6_doingOf wsX6_doingOf) := goodIn_app (goodIn_of _ (by decide +kernel)) ggX6_of_X6_doingOf
theorem dX6_of_0 : decode cX6_of 0 = .ok (.aload_n 0, 1) := by decide +kernel
theorem dX6_of_1 : decode cX6_of 1 = .ok (.iconst 0, 1) := by decide +kernel
theorem dX6_of_2 : decode cX6_of 2 = .ok (.putfield 121, 3) := by decide +kernel
theorem dX6_of_5 : decode cX6_of 5 = .ok (.aload_n 0, 1) := by decide +kernel
theorem dX6_of_6 : decode cX6_of 6 = .ok (.iload_n 1, 1) := by decide +kernel
theorem dX6_of_7 : decode cX6_of 7 = .ok (.invokevirtual 133, 3) := by decide +kernel
theorem dX6_of_10 : decode cX6_of 10 = .ok (.ifCond .ne 7, 3) := by decide +kernel
theorem dX6_of_13 : decode cX6_of 13 = .ok (.ldc_w 276, 3) := by decide +kernel
theorem dX6_of_16 : decode cX6_of 16 = .ok (.ireturn, 1) := by decide +kernel
theorem dX6_of_17 : decode cX6_of 17 = .ok (.iload_n 2, 1) := by decide +kernel
theorem dX6_of_18 : decode cX6_of 18 = .ok (.ifCond .ne 10, 3) := by decide +kernel
theorem dX6_of_21 : decode cX6_of 21 = .ok (.aload_n 0, 1) := by decide +kernel
theorem dX6_of_22 : decode cX6_of 22 = .ok (.getfield 13, 3) := by decide +kernel
theorem dX6_of_25 : decode cX6_of 25 = .ok (.iload_n 1, 1) := by decide +kernel
theorem dX6_of_26 : decode cX6_of 26 = .ok (.iaload, 1) := by decide +kernel
theorem dX6_of_27 : decode cX6_of 27 = .ok (.ireturn, 1) := by decide +kernel
theorem dX6_of_28 : decode cX6_of 28 = .ok (.iload_n 2, 1) := by decide +kernel
theorem dX6_of_29 : decode cX6_of 29 = .ok (.iconst 1, 1) := by decide +kernel
theorem dX6_of_30 : decode cX6_of 30 = .ok (.if_icmp .ne 10, 3) := by decide +kernel
theorem dX6_of_33 : decode cX6_of 33 = .ok (.aload_n 0, 1) := by decide +kernel
theorem dX6_of_34 : decode cX6_of 34 = .ok (.getfield 17, 3) := by decide +kernel
theorem dX6_of_37 : decode cX6_of 37 = .ok (.iload_n 1, 1) := by decide +kernel
theorem dX6_of_38 : decode cX6_of 38 = .ok (.iaload, 1) := by decide +kernel
theorem dX6_of_39 : decode cX6_of 39 = .ok (.ireturn, 1) := by decide +kernel
theorem dX6_of_40 : decode cX6_of 40 = .ok (.iload_n 2, 1) := by decide +kernel
theorem dX6_of_41 : decode cX6_of 41 = .ok (.iconst 2, 1) := by decide +kernel
theorem dX6_of_42 : decode cX6_of 42 = .ok (.if_icmp .ne 10, 3) := by decide +kernel
theorem dX6_of_45 : decode cX6_of 45 = .ok (.aload_n 0, 1) := by decide +kernel
theorem dX6_of_46 : decode cX6_of 46 = .ok (.getfield 20, 3) := by decide +kernel
theorem dX6_of_49 : decode cX6_of 49 = .ok (.iload_n 1, 1) := by decide +kernel
theorem dX6_of_50 : decode cX6_of 50 = .ok (.iaload, 1) := by decide +kernel
theorem dX6_of_51 : decode cX6_of 51 = .ok (.ireturn, 1) := by decide +kernel
theorem dX6_of_52 : decode cX6_of 52 = .ok (.iload_n 2, 1) := by decide +kernel
theorem dX6_of_53 : decode cX6_of 53 = .ok (.iconst 3, 1) := by decide +kernel
theorem dX6_of_54 : decode cX6_of 54 = .ok (.if_icmp .ne 10, 3) := by decide +kernel
theorem dX6_of_57 : decode cX6_of 57 = .ok (.aload_n 0, 1) := by decide +kernel
theorem dX6_of_58 : decode cX6_of 58 = .ok (.getfield 23, 3) := by decide +kernel
theorem dX6_of_61 : decode cX6_of 61 = .ok (.iload_n 1, 1) := by decide +kernel
theorem dX6_of_62 : decode cX6_of 62 = .ok (.iaload, 1) := by decide +kernel
theorem dX6_of_63 : decode cX6_of 63 = .ok (.ireturn, 1) := by decide +kernel
theorem dX6_of_64 : decode cX6_of 64 = .ok (.iload_n 2, 1) := by decide +kernel
theorem dX6_of_65 : decode cX6_of 65 = .ok (.iconst 4, 1) := by decide +kernel
theorem dX6_of_66 : decode cX6_of 66 = .ok (.if_icmp .ne 10, 3) := by decide +kernel
theorem dX6_of_69 : decode cX6_of 69 = .ok (.aload_n 0, 1) := by decide +kernel
theorem dX6_of_70 : decode cX6_of 70 = .ok (.getfield 26, 3) := by decide +kernel
theorem dX6_of_73 : decode cX6_of 73 = .ok (.iload_n 1, 1) := by decide +kernel
theorem dX6_of_74 : decode cX6_of 74 = .ok (.iaload, 1) := by decide +kernel
theorem dX6_of_75 : decode cX6_of 75 = .ok (.ireturn, 1) := by decide +kernel
theorem dX6_of_76 : decode cX6_of 76 = .ok (.iload_n 2, 1) := by decide +kernel
theorem dX6_of_77 : decode cX6_of 77 = .ok (.iconst 5, 1) := by decide +kernel
theorem dX6_of_78 : decode cX6_of 78 = .ok (.if_icmp .ne 10, 3) := by decide +kernel
theorem dX6_of_81 : decode cX6_of 81 = .ok (.aload_n 0, 1) := by decide +kernel
theorem dX6_of_82 : decode cX6_of 82 = .ok (.getfield 29, 3) := by decide +kernel
theorem dX6_of_85 : decode cX6_of 85 = .ok (.iload_n 1, 1) := by decide +kernel
theorem dX6_of_86 : decode cX6_of 86 = .ok (.iaload, 1) := by decide +kernel
theorem dX6_of_87 : decode cX6_of 87 = .ok (.ireturn, 1) := by decide +kernel
theorem dX6_of_88 : decode cX6_of 88 = .ok (.iload_n 2, 1) := by decide +kernel
theorem dX6_of_89 : decode cX6_of 89 = .ok (.bipush 6, 2) := by decide +kernel
theorem dX6_of_91 : decode cX6_of 91 = .ok (.if_icmp .ne 10, 3) := by decide +kernel
theorem dX6_of_94 : decode cX6_of 94 = .ok (.aload_n 0, 1) := by decide +kernel
theorem dX6_of_95 : decode cX6_of 95 = .ok (.getfield 32, 3) := by decide +kernel
theorem dX6_of_98 : decode cX6_of 98 = .ok (.iload_n 1, 1) := by decide +kernel
theorem dX6_of_99 : decode cX6_of 99 = .ok (.iaload, 1) := by decide +kernel
theorem dX6_of_100 : decode cX6_of 100 = .ok (.ireturn, 1) := by decide +kernel
theorem dX6_of_101 : decode cX6_of 101 = .ok (.iload_n 2, 1) := by decide +kernel
theorem dX6_of_102 : decode cX6_of 102 = .ok (.bipush 7, 2) := by decide +kernel
theorem dX6_of_104 : decode cX6_of 104 = .ok (.if_icmp .ne 10, 3) := by decide +kernel
theorem dX6_of_107 : decode cX6_of 107 = .ok (.aload_n 0, 1) := by decide +kernel
theorem dX6_of_108 : decode cX6_of 108 = .ok (.getfield 35, 3) := by decide +kernel
theorem dX6_of_111 : decode cX6_of 111 = .ok (.iload_n 1, 1) := by decide +kernel
theorem dX6_of_112 : decode cX6_of 112 = .ok (.iaload, 1) := by decide +kernel
theorem dX6_of_113 : decode cX6_of 113 = .ok (.ireturn, 1) := by decide +kernel
theorem dX6_of_114 : decode cX6_of 114 = .ok (.iload_n 2, 1) := by decide +kernel
theorem dX6_of_115 : decode cX6_of 115 = .ok (.bipush 8, 2) := by decide +kernel
theorem dX6_of_117 : decode cX6_of 117 = .ok (.if_icmp .ne 11, 3) := by decide +kernel
theorem dX6_of_120 : decode cX6_of 120 = .ok (.aload_n 0, 1) := by decide +kernel
theorem dX6_of_121 : decode cX6_of 121 = .ok (.iload_n 1, 1) := by decide +kernel
theorem dX6_of_122 : decode cX6_of 122 = .ok (.invokevirtual 266, 3) := by decide +kernel
theorem dX6_of_125 : decode cX6_of 125 = .ok (.goto 6, 3) := by decide +kernel
theorem dX6_of_128 : decode cX6_of 128 = .ok (.ldc_w 276, 3) := by decide +kernel
theorem dX6_of_131 : decode cX6_of 131 = .ok (.ireturn, 1) := by decide +kernel
set_option maxRecDepth 20000 in
theorem ggX6_stake_X6_isFarm : GoodIn wsX6_stake wsX6_isFarm := goodIn_r _ [10, 11, 12, 13, 14, 15, 16, 17, 18, 19, 20, 21, 22, 23, 24, 25, 26, 27, 28, 29, 30, 31, 32, 33, 34, 35, 36, 37, 38, 39, 40, 41, 42, 43, 44, 45, 46, 47, 48, 49, 50, 51, 52, 53, 54, 55, 56, 57, 58, 59, 60, 61, 62, 63, 64, 65, 66] (by decide +kernel) (by decide +kernel)
set_option maxRecDepth 20000 in
theorem gX6_stake_X6_isFarm : GoodIn wsX6_stake (wsV RX6 133 RX6 yX6_isFarm wsX6_isFarm) := goodIn_app (goodIn_of _ (by decide +kernel)) ggX6_stake_X6_isFarm
theorem dX6_stake_0 : decode cX6_stake 0 = .ok (.aload_n 0, 1) := by decide +kernel
theorem dX6_stake_1 : decode cX6_stake 1 = .ok (.iconst 0, 1) := by decide +kernel
theorem dX6_stake_2 : decode cX6_stake 2 = .ok (.putfield 121, 3) := by decide +kernel
theorem dX6_stake_5 : decode cX6_stake 5 = .ok (.aload_n 0, 1) := by decide +kernel
theorem dX6_stake_6 : decode cX6_stake 6 = .ok (.iload_n 1, 1) := by decide +kernel
theorem dX6_stake_7 : decode cX6_stake 7 = .ok (.invokevirtual 133, 3) := by decide +kernel
theorem dX6_stake_10 : decode cX6_stake 10 = .ok (.ifCond .ne 6, 3) := by decide +kernel
theorem dX6_stake_13 : decode cX6_stake 13 = .ok (.bipush (-2), 2) := by decide +kernel
theorem dX6_stake_15 : decode cX6_stake 15 = .ok (.ireturn, 1) := by decide +kernel
theorem dX6_stake_16 : decode cX6_stake 16 = .ok (.iload_n 2, 1) := by decide +kernel
theorem dX6_stake_17 : decode cX6_stake 17 = .ok (.ifCond .ne 12, 3) := by decide +kernel
theorem dX6_stake_20 : decode cX6_stake 20 = .ok (.aload_n 0, 1) := by decide +kernel
theorem dX6_stake_21 : decode cX6_stake 21 = .ok (.getfield 38, 3) := by decide +kernel
theorem dX6_stake_24 : decode cX6_stake 24 = .ok (.iload_n 1, 1) := by decide +kernel
theorem dX6_stake_25 : decode cX6_stake 25 = .ok (.iaload, 1) := by decide +kernel
theorem dX6_stake_26 : decode cX6_stake 26 = .ok (.goto 47, 3) := by decide +kernel
theorem dX6_stake_29 : decode cX6_stake 29 = .ok (.iload_n 2, 1) := by decide +kernel
theorem dX6_stake_30 : decode cX6_stake 30 = .ok (.iconst 1, 1) := by decide +kernel
theorem dX6_stake_31 : decode cX6_stake 31 = .ok (.if_icmp .ne 12, 3) := by decide +kernel
theorem dX6_stake_34 : decode cX6_stake 34 = .ok (.aload_n 0, 1) := by decide +kernel
theorem dX6_stake_35 : decode cX6_stake 35 = .ok (.getfield 41, 3) := by decide +kernel
theorem dX6_stake_38 : decode cX6_stake 38 = .ok (.iload_n 1, 1) := by decide +kernel
theorem dX6_stake_39 : decode cX6_stake 39 = .ok (.iaload, 1) := by decide +kernel
theorem dX6_stake_40 : decode cX6_stake 40 = .ok (.goto 33, 3) := by decide +kernel
theorem dX6_stake_43 : decode cX6_stake 43 = .ok (.iload_n 2, 1) := by decide +kernel
theorem dX6_stake_44 : decode cX6_stake 44 = .ok (.iconst 2, 1) := by decide +kernel
theorem dX6_stake_45 : decode cX6_stake 45 = .ok (.if_icmp .ne 12, 3) := by decide +kernel
theorem dX6_stake_48 : decode cX6_stake 48 = .ok (.aload_n 0, 1) := by decide +kernel
theorem dX6_stake_49 : decode cX6_stake 49 = .ok (.getfield 44, 3) := by decide +kernel
theorem dX6_stake_52 : decode cX6_stake 52 = .ok (.iload_n 1, 1) := by decide +kernel
theorem dX6_stake_53 : decode cX6_stake 53 = .ok (.iaload, 1) := by decide +kernel
theorem dX6_stake_54 : decode cX6_stake 54 = .ok (.goto 19, 3) := by decide +kernel
theorem dX6_stake_57 : decode cX6_stake 57 = .ok (.iload_n 2, 1) := by decide +kernel
theorem dX6_stake_58 : decode cX6_stake 58 = .ok (.iconst 3, 1) := by decide +kernel
theorem dX6_stake_59 : decode cX6_stake 59 = .ok (.if_icmp .ne 12, 3) := by decide +kernel
theorem dX6_stake_62 : decode cX6_stake 62 = .ok (.aload_n 0, 1) := by decide +kernel
theorem dX6_stake_63 : decode cX6_stake 63 = .ok (.getfield 47, 3) := by decide +kernel
theorem dX6_stake_66 : decode cX6_stake 66 = .ok (.iload_n 1, 1) := by decide +kernel
theorem dX6_stake_67 : decode cX6_stake 67 = .ok (.iaload, 1) := by decide +kernel
theorem dX6_stake_68 : decode cX6_stake 68 = .ok (.goto 5, 3) := by decide +kernel
theorem dX6_stake_71 : decode cX6_stake 71 = .ok (.bipush (-2), 2) := by decide +kernel
theorem dX6_stake_73 : decode cX6_stake 73 = .ok (.ireturn, 1) := by decide +kernel
theorem dX6_takesRow_0 : decode cX6_takesRow 0 = .ok (.iload_n 1, 1) := by decide +kernel
theorem dX6_takesRow_1 : decode cX6_takesRow 1 = .ok (.istore_n 2, 1) := by decide +kernel
theorem dX6_takesRow_2 : decode cX6_takesRow 2 = .ok (.aload_n 0, 1) := by decide +kernel
theorem dX6_takesRow_3 : decode cX6_takesRow 3 = .ok (.getfield 7, 3) := by decide +kernel
theorem dX6_takesRow_6 : decode cX6_takesRow 6 = .ok (.iconst 1, 1) := by decide +kernel
theorem dX6_takesRow_7 : decode cX6_takesRow 7 = .ok (.isub, 1) := by decide +kernel
theorem dX6_takesRow_8 : decode cX6_takesRow 8 = .ok (.istore_n 3, 1) := by decide +kernel
theorem dX6_takesRow_9 : decode cX6_takesRow 9 = .ok (.iload_n 3, 1) := by decide +kernel
theorem dX6_takesRow_10 : decode cX6_takesRow 10 = .ok (.ifCond .lt 22, 3) := by decide +kernel
theorem dX6_takesRow_13 : decode cX6_takesRow 13 = .ok (.aload_n 0, 1) := by decide +kernel
theorem dX6_takesRow_14 : decode cX6_takesRow 14 = .ok (.getfield 99, 3) := by decide +kernel
theorem dX6_takesRow_17 : decode cX6_takesRow 17 = .ok (.iload_n 3, 1) := by decide +kernel
theorem dX6_takesRow_18 : decode cX6_takesRow 18 = .ok (.iload_n 2, 1) := by decide +kernel
theorem dX6_takesRow_19 : decode cX6_takesRow 19 = .ok (.iconst 4, 1) := by decide +kernel
theorem dX6_takesRow_20 : decode cX6_takesRow 20 = .ok (.irem, 1) := by decide +kernel
theorem dX6_takesRow_21 : decode cX6_takesRow 21 = .ok (.iastore, 1) := by decide +kernel
theorem dX6_takesRow_22 : decode cX6_takesRow 22 = .ok (.iload_n 2, 1) := by decide +kernel
theorem dX6_takesRow_23 : decode cX6_takesRow 23 = .ok (.iconst 4, 1) := by decide +kernel
theorem dX6_takesRow_24 : decode cX6_takesRow 24 = .ok (.idiv, 1) := by decide +kernel
theorem dX6_takesRow_25 : decode cX6_takesRow 25 = .ok (.istore_n 2, 1) := by decide +kernel
theorem dX6_takesRow_26 : decode cX6_takesRow 26 = .ok (.iinc 3 (-1), 3) := by decide +kernel
theorem dX6_takesRow_29 : decode cX6_takesRow 29 = .ok (.goto (-20), 3) := by decide +kernel
theorem dX6_takesRow_32 : decode cX6_takesRow 32 = .ok (.return_, 1) := by decide +kernel
set_option maxRecDepth 20000 in
theorem ggX6_canMove_X6_rightOf : GoodIn wsX6_canMove wsX6_rightOf := goodIn_r _ [8, 9, 10, 11, 12, 13, 14, 15, 16, 17, 18, 19, 20, 21, 22, 23, 24, 25, 26, 27, 28, 29, 30, 31, 32, 33, 34, 35, 36, 37, 38, 39, 40, 41, 42, 43, 44, 45, 46, 47, 48, 49, 50, 51, 52, 53, 54, 55, 56, 57, 58, 59, 60, 61, 62, 63, 64] (by decide +kernel) (by decide +kernel)
set_option maxRecDepth 20000 in
theorem gX6_canMove_X6_rightOf : GoodIn wsX6_canMove (wsV RX6 248 RX6 yX6_rightOf wsX6_rightOf) := goodIn_app (goodIn_of _ (by decide +kernel)) ggX6_canMove_X6_rightOf
theorem dX6_canMove_0 : decode cX6_canMove 0 = .ok (.aload_n 0, 1) := by decide +kernel
theorem dX6_canMove_1 : decode cX6_canMove 1 = .ok (.getfield 38, 3) := by decide +kernel
theorem dX6_canMove_4 : decode cX6_canMove 4 = .ok (.iload_n 1, 1) := by decide +kernel
theorem dX6_canMove_5 : decode cX6_canMove 5 = .ok (.iaload, 1) := by decide +kernel
theorem dX6_canMove_6 : decode cX6_canMove 6 = .ok (.ifCond .ne 39, 3) := by decide +kernel
theorem dX6_canMove_9 : decode cX6_canMove 9 = .ok (.aload_n 0, 1) := by decide +kernel
theorem dX6_canMove_10 : decode cX6_canMove 10 = .ok (.getfield 53, 3) := by decide +kernel
theorem dX6_canMove_13 : decode cX6_canMove 13 = .ok (.bipush 9, 2) := by decide +kernel
theorem dX6_canMove_15 : decode cX6_canMove 15 = .ok (.iaload, 1) := by decide +kernel
theorem dX6_canMove_16 : decode cX6_canMove 16 = .ok (.ifCond .le 29, 3) := by decide +kernel
theorem dX6_canMove_19 : decode cX6_canMove 19 = .ok (.aload_n 0, 1) := by decide +kernel
theorem dX6_canMove_20 : decode cX6_canMove 20 = .ok (.getfield 13, 3) := by decide +kernel
theorem dX6_canMove_23 : decode cX6_canMove 23 = .ok (.iload_n 1, 1) := by decide +kernel
theorem dX6_canMove_24 : decode cX6_canMove 24 = .ok (.iaload, 1) := by decide +kernel
theorem dX6_canMove_25 : decode cX6_canMove 25 = .ok (.ifCond .le 20, 3) := by decide +kernel
theorem dX6_canMove_28 : decode cX6_canMove 28 = .ok (.aload_n 0, 1) := by decide +kernel
theorem dX6_canMove_29 : decode cX6_canMove 29 = .ok (.getfield 13, 3) := by decide +kernel
theorem dX6_canMove_32 : decode cX6_canMove 32 = .ok (.aload_n 0, 1) := by decide +kernel
theorem dX6_canMove_33 : decode cX6_canMove 33 = .ok (.iload_n 1, 1) := by decide +kernel
theorem dX6_canMove_34 : decode cX6_canMove 34 = .ok (.invokevirtual 248, 3) := by decide +kernel
