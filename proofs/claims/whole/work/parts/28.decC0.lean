theorem dX6_init_0 : decode cX6_init 0 = .ok (.aload_n 0, 1) := by decide +kernel
theorem dX6_init_1 : decode cX6_init 1 = .ok (.invokespecial 1, 3) := by decide +kernel
theorem dX6_init_4 : decode cX6_init 4 = .ok (.aload_n 0, 1) := by decide +kernel
theorem dX6_init_5 : decode cX6_init 5 = .ok (.iconst 4, 1) := by decide +kernel
theorem dX6_init_6 : decode cX6_init 6 = .ok (.putfield 7, 3) := by decide +kernel
theorem dX6_init_9 : decode cX6_init 9 = .ok (.aload_n 0, 1) := by decide +kernel
theorem dX6_init_10 : decode cX6_init 10 = .ok (.bipush 10, 2) := by decide +kernel
theorem dX6_init_12 : decode cX6_init 12 = .ok (.newarray .int, 2) := by decide +kernel
theorem dX6_init_14 : decode cX6_init 14 = .ok (.dup, 1) := by decide +kernel
theorem dX6_init_15 : decode cX6_init 15 = .ok (.iconst 0, 1) := by decide +kernel
theorem dX6_init_16 : decode cX6_init 16 = .ok (.bipush 10, 2) := by decide +kernel
theorem dX6_init_18 : decode cX6_init 18 = .ok (.iastore, 1) := by decide +kernel
theorem dX6_init_19 : decode cX6_init 19 = .ok (.dup, 1) := by decide +kernel
theorem dX6_init_20 : decode cX6_init 20 = .ok (.iconst 1, 1) := by decide +kernel
theorem dX6_init_21 : decode cX6_init 21 = .ok (.bipush 10, 2) := by decide +kernel
theorem dX6_init_23 : decode cX6_init 23 = .ok (.iastore, 1) := by decide +kernel
theorem dX6_init_24 : decode cX6_init 24 = .ok (.dup, 1) := by decide +kernel
theorem dX6_init_25 : decode cX6_init 25 = .ok (.iconst 2, 1) := by decide +kernel
theorem dX6_init_26 : decode cX6_init 26 = .ok (.bipush 10, 2) := by decide +kernel
theorem dX6_init_28 : decode cX6_init 28 = .ok (.iastore, 1) := by decide +kernel
theorem dX6_init_29 : decode cX6_init 29 = .ok (.dup, 1) := by decide +kernel
theorem dX6_init_30 : decode cX6_init 30 = .ok (.iconst 3, 1) := by decide +kernel
theorem dX6_init_31 : decode cX6_init 31 = .ok (.bipush 10, 2) := by decide +kernel
theorem dX6_init_33 : decode cX6_init 33 = .ok (.iastore, 1) := by decide +kernel
theorem dX6_init_34 : decode cX6_init 34 = .ok (.dup, 1) := by decide +kernel
theorem dX6_init_35 : decode cX6_init 35 = .ok (.iconst 4, 1) := by decide +kernel
theorem dX6_init_36 : decode cX6_init 36 = .ok (.bipush 10, 2) := by decide +kernel
theorem dX6_init_38 : decode cX6_init 38 = .ok (.iastore, 1) := by decide +kernel
theorem dX6_init_39 : decode cX6_init 39 = .ok (.dup, 1) := by decide +kernel
theorem dX6_init_40 : decode cX6_init 40 = .ok (.iconst 5, 1) := by decide +kernel
theorem dX6_init_41 : decode cX6_init 41 = .ok (.bipush 10, 2) := by decide +kernel
theorem dX6_init_43 : decode cX6_init 43 = .ok (.iastore, 1) := by decide +kernel
theorem dX6_init_44 : decode cX6_init 44 = .ok (.dup, 1) := by decide +kernel
theorem dX6_init_45 : decode cX6_init 45 = .ok (.bipush 6, 2) := by decide +kernel
theorem dX6_init_47 : decode cX6_init 47 = .ok (.bipush 10, 2) := by decide +kernel
theorem dX6_init_49 : decode cX6_init 49 = .ok (.iastore, 1) := by decide +kernel
theorem dX6_init_50 : decode cX6_init 50 = .ok (.dup, 1) := by decide +kernel
theorem dX6_init_51 : decode cX6_init 51 = .ok (.bipush 7, 2) := by decide +kernel
theorem dX6_init_53 : decode cX6_init 53 = .ok (.bipush 10, 2) := by decide +kernel
theorem dX6_init_55 : decode cX6_init 55 = .ok (.iastore, 1) := by decide +kernel
theorem dX6_init_56 : decode cX6_init 56 = .ok (.dup, 1) := by decide +kernel
theorem dX6_init_57 : decode cX6_init 57 = .ok (.bipush 8, 2) := by decide +kernel
theorem dX6_init_59 : decode cX6_init 59 = .ok (.bipush 10, 2) := by decide +kernel
theorem dX6_init_61 : decode cX6_init 61 = .ok (.iastore, 1) := by decide +kernel
theorem dX6_init_62 : decode cX6_init 62 = .ok (.dup, 1) := by decide +kernel
theorem dX6_init_63 : decode cX6_init 63 = .ok (.bipush 9, 2) := by decide +kernel
theorem dX6_init_65 : decode cX6_init 65 = .ok (.bipush 10, 2) := by decide +kernel
theorem dX6_init_67 : decode cX6_init 67 = .ok (.iastore, 1) := by decide +kernel
theorem dX6_init_68 : decode cX6_init 68 = .ok (.putfield 13, 3) := by decide +kernel
theorem dX6_init_71 : decode cX6_init 71 = .ok (.aload_n 0, 1) := by decide +kernel
theorem dX6_init_72 : decode cX6_init 72 = .ok (.bipush 10, 2) := by decide +kernel
theorem dX6_init_74 : decode cX6_init 74 = .ok (.newarray .int, 2) := by decide +kernel
theorem dX6_init_76 : decode cX6_init 76 = .ok (.putfield 17, 3) := by decide +kernel
theorem dX6_init_79 : decode cX6_init 79 = .ok (.aload_n 0, 1) := by decide +kernel
theorem dX6_init_80 : decode cX6_init 80 = .ok (.bipush 10, 2) := by decide +kernel
theorem dX6_init_82 : decode cX6_init 82 = .ok (.newarray .int, 2) := by decide +kernel
theorem dX6_init_84 : decode cX6_init 84 = .ok (.dup, 1) := by decide +kernel
theorem dX6_init_85 : decode cX6_init 85 = .ok (.iconst 0, 1) := by decide +kernel
theorem dX6_init_86 : decode cX6_init 86 = .ok (.iconst 0, 1) := by decide +kernel
theorem dX6_init_87 : decode cX6_init 87 = .ok (.iastore, 1) := by decide +kernel
theorem dX6_init_88 : decode cX6_init 88 = .ok (.dup, 1) := by decide +kernel
theorem dX6_init_89 : decode cX6_init 89 = .ok (.iconst 1, 1) := by decide +kernel
theorem dX6_init_90 : decode cX6_init 90 = .ok (.iconst 1, 1) := by decide +kernel
theorem dX6_init_91 : decode cX6_init 91 = .ok (.iastore, 1) := by decide +kernel
theorem dX6_init_92 : decode cX6_init 92 = .ok (.dup, 1) := by decide +kernel
theorem dX6_init_93 : decode cX6_init 93 = .ok (.iconst 2, 1) := by decide +kernel
theorem dX6_init_94 : decode cX6_init 94 = .ok (.iconst 2, 1) := by decide +kernel
theorem dX6_init_95 : decode cX6_init 95 = .ok (.iastore, 1) := by decide +kernel
theorem dX6_init_96 : decode cX6_init 96 = .ok (.dup, 1) := by decide +kernel
theorem dX6_init_97 : decode cX6_init 97 = .ok (.iconst 3, 1) := by decide +kernel
theorem dX6_init_98 : decode cX6_init 98 = .ok (.iconst 3, 1) := by decide +kernel
theorem dX6_init_99 : decode cX6_init 99 = .ok (.iastore, 1) := by decide +kernel
theorem dX6_init_100 : decode cX6_init 100 = .ok (.dup, 1) := by decide +kernel
theorem dX6_init_101 : decode cX6_init 101 = .ok (.iconst 4, 1) := by decide +kernel
theorem dX6_init_102 : decode cX6_init 102 = .ok (.iconst 4, 1) := by decide +kernel
theorem dX6_init_103 : decode cX6_init 103 = .ok (.iastore, 1) := by decide +kernel
theorem dX6_init_104 : decode cX6_init 104 = .ok (.dup, 1) := by decide +kernel
theorem dX6_init_105 : decode cX6_init 105 = .ok (.iconst 5, 1) := by decide +kernel
theorem dX6_init_106 : decode cX6_init 106 = .ok (.iconst 5, 1) := by decide +kernel
theorem dX6_init_107 : decode cX6_init 107 = .ok (.iastore, 1) := by decide +kernel
theorem dX6_init_108 : decode cX6_init 108 = .ok (.dup, 1) := by decide +kernel
theorem dX6_init_109 : decode cX6_init 109 = .ok (.bipush 6, 2) := by decide +kernel
theorem dX6_init_111 : decode cX6_init 111 = .ok (.bipush 6, 2) := by decide +kernel
theorem dX6_init_113 : decode cX6_init 113 = .ok (.iastore, 1) := by decide +kernel
theorem dX6_init_114 : decode cX6_init 114 = .ok (.dup, 1) := by decide +kernel
theorem dX6_init_115 : decode cX6_init 115 = .ok (.bipush 7, 2) := by decide +kernel
theorem dX6_init_117 : decode cX6_init 117 = .ok (.bipush 7, 2) := by decide +kernel
theorem dX6_init_119 : decode cX6_init 119 = .ok (.iastore, 1) := by decide +kernel
theorem dX6_init_120 : decode cX6_init 120 = .ok (.dup, 1) := by decide +kernel
theorem dX6_init_121 : decode cX6_init 121 = .ok (.bipush 8, 2) := by decide +kernel
theorem dX6_init_123 : decode cX6_init 123 = .ok (.bipush 8, 2) := by decide +kernel
theorem dX6_init_125 : decode cX6_init 125 = .ok (.iastore, 1) := by decide +kernel
theorem dX6_init_126 : decode cX6_init 126 = .ok (.dup, 1) := by decide +kernel
theorem dX6_init_127 : decode cX6_init 127 = .ok (.bipush 9, 2) := by decide +kernel
theorem dX6_init_129 : decode cX6_init 129 = .ok (.bipush 9, 2) := by decide +kernel
theorem dX6_init_131 : decode cX6_init 131 = .ok (.iastore, 1) := by decide +kernel
theorem dX6_init_132 : decode cX6_init 132 = .ok (.putfield 20, 3) := by decide +kernel
theorem dX6_init_135 : decode cX6_init 135 = .ok (.aload_n 0, 1) := by decide +kernel
theorem dX6_init_136 : decode cX6_init 136 = .ok (.bipush 10, 2) := by decide +kernel
theorem dX6_init_138 : decode cX6_init 138 = .ok (.newarray .int, 2) := by decide +kernel
theorem dX6_init_140 : decode cX6_init 140 = .ok (.putfield 23, 3) := by decide +kernel
theorem dX6_init_143 : decode cX6_init 143 = .ok (.aload_n 0, 1) := by decide +kernel
theorem dX6_init_144 : decode cX6_init 144 = .ok (.bipush 10, 2) := by decide +kernel
theorem dX6_init_146 : decode cX6_init 146 = .ok (.newarray .int, 2) := by decide +kernel
theorem dX6_init_148 : decode cX6_init 148 = .ok (.putfield 26, 3) := by decide +kernel
theorem dX6_init_151 : decode cX6_init 151 = .ok (.aload_n 0, 1) := by decide +kernel
theorem dX6_init_152 : decode cX6_init 152 = .ok (.bipush 10, 2) := by decide +kernel
theorem dX6_init_154 : decode cX6_init 154 = .ok (.newarray .int, 2) := by decide +kernel
theorem dX6_init_156 : decode cX6_init 156 = .ok (.dup, 1) := by decide +kernel
theorem dX6_init_157 : decode cX6_init 157 = .ok (.iconst 0, 1) := by decide +kernel
theorem dX6_init_158 : decode cX6_init 158 = .ok (.bipush 99, 2) := by decide +kernel
theorem dX6_init_160 : decode cX6_init 160 = .ok (.iastore, 1) := by decide +kernel
theorem dX6_init_161 : decode cX6_init 161 = .ok (.dup, 1) := by decide +kernel
theorem dX6_init_162 : decode cX6_init 162 = .ok (.iconst 1, 1) := by decide +kernel
theorem dX6_init_163 : decode cX6_init 163 = .ok (.bipush 99, 2) := by decide +kernel
theorem dX6_init_165 : decode cX6_init 165 = .ok (.iastore, 1) := by decide +kernel
theorem dX6_init_166 : decode cX6_init 166 = .ok (.dup, 1) := by decide +kernel
theorem dX6_init_167 : decode cX6_init 167 = .ok (.iconst 2, 1) := by decide +kernel
theorem dX6_init_168 : decode cX6_init 168 = .ok (.bipush 99, 2) := by decide +kernel
theorem dX6_init_170 : decode cX6_init 170 = .ok (.iastore, 1) := by decide +kernel
theorem dX6_init_171 : decode cX6_init 171 = .ok (.dup, 1) := by decide +kernel
theorem dX6_init_172 : decode cX6_init 172 = .ok (.iconst 3, 1) := by decide +kernel
theorem dX6_init_173 : decode cX6_init 173 = .ok (.bipush 99, 2) := by decide +kernel
theorem dX6_init_175 : decode cX6_init 175 = .ok (.iastore, 1) := by decide +kernel
theorem dX6_init_176 : decode cX6_init 176 = .ok (.dup, 1) := by decide +kernel
theorem dX6_init_177 : decode cX6_init 177 = .ok (.iconst 4, 1) := by decide +kernel
theorem dX6_init_178 : decode cX6_init 178 = .ok (.bipush 99, 2) := by decide +kernel
theorem dX6_init_180 : decode cX6_init 180 = .ok (.iastore, 1) := by decide +kernel
theorem dX6_init_181 : decode cX6_init 181 = .ok (.dup, 1) := by decide +kernel
theorem dX6_init_182 : decode cX6_init 182 = .ok (.iconst 5, 1) := by decide +kernel
theorem dX6_init_183 : decode cX6_init 183 = .ok (.bipush 99, 2) := by decide +kernel
theorem dX6_init_185 : decode cX6_init 185 = .ok (.iastore, 1) := by decide +kernel
theorem dX6_init_186 : decode cX6_init 186 = .ok (.dup, 1) := by decide +kernel
theorem dX6_init_187 : decode cX6_init 187 = .ok (.bipush 6, 2) := by decide +kernel
theorem dX6_init_189 : decode cX6_init 189 = .ok (.bipush 99, 2) := by decide +kernel
theorem dX6_init_191 : decode cX6_init 191 = .ok (.iastore, 1) := by decide +kernel
theorem dX6_init_192 : decode cX6_init 192 = .ok (.dup, 1) := by decide +kernel
theorem dX6_init_193 : decode cX6_init 193 = .ok (.bipush 7, 2) := by decide +kernel
theorem dX6_init_195 : decode cX6_init 195 = .ok (.bipush 99, 2) := by decide +kernel
theorem dX6_init_197 : decode cX6_init 197 = .ok (.iastore, 1) := by decide +kernel
theorem dX6_init_198 : decode cX6_init 198 = .ok (.dup, 1) := by decide +kernel
theorem dX6_init_199 : decode cX6_init 199 = .ok (.bipush 8, 2) := by decide +kernel
theorem dX6_init_201 : decode cX6_init 201 = .ok (.bipush 99, 2) := by decide +kernel
theorem dX6_init_203 : decode cX6_init 203 = .ok (.iastore, 1) := by decide +kernel
theorem dX6_init_204 : decode cX6_init 204 = .ok (.dup, 1) := by decide +kernel
theorem dX6_init_205 : decode cX6_init 205 = .ok (.bipush 9, 2) := by decide +kernel
theorem dX6_init_207 : decode cX6_init 207 = .ok (.bipush 99, 2) := by decide +kernel
theorem dX6_init_209 : decode cX6_init 209 = .ok (.iastore, 1) := by decide +kernel
theorem dX6_init_210 : decode cX6_init 210 = .ok (.putfield 29, 3) := by decide +kernel
theorem dX6_init_213 : decode cX6_init 213 = .ok (.aload_n 0, 1) := by decide +kernel
theorem dX6_init_214 : decode cX6_init 214 = .ok (.bipush 10, 2) := by decide +kernel
theorem dX6_init_216 : decode cX6_init 216 = .ok (.newarray .int, 2) := by decide +kernel
theorem dX6_init_218 : decode cX6_init 218 = .ok (.putfield 32, 3) := by decide +kernel
theorem dX6_init_221 : decode cX6_init 221 = .ok (.aload_n 0, 1) := by decide +kernel
theorem dX6_init_222 : decode cX6_init 222 = .ok (.bipush 10, 2) := by decide +kernel
theorem dX6_init_224 : decode cX6_init 224 = .ok (.newarray .int, 2) := by decide +kernel
theorem dX6_init_226 : decode cX6_init 226 = .ok (.dup, 1) := by decide +kernel
theorem dX6_init_227 : decode cX6_init 227 = .ok (.iconst 0, 1) := by decide +kernel
theorem dX6_init_228 : decode cX6_init 228 = .ok (.iconst (-1), 1) := by decide +kernel
theorem dX6_init_229 : decode cX6_init 229 = .ok (.iastore, 1) := by decide +kernel
theorem dX6_init_230 : decode cX6_init 230 = .ok (.dup, 1) := by decide +kernel
theorem dX6_init_231 : decode cX6_init 231 = .ok (.iconst 1, 1) := by decide +kernel
theorem dX6_init_232 : decode cX6_init 232 = .ok (.iconst (-1), 1) := by decide +kernel
theorem dX6_init_233 : decode cX6_init 233 = .ok (.iastore, 1) := by decide +kernel
theorem dX6_init_234 : decode cX6_init 234 = .ok (.dup, 1) := by decide +kernel
theorem dX6_init_235 : decode cX6_init 235 = .ok (.iconst 2, 1) := by decide +kernel
theorem dX6_init_236 : decode cX6_init 236 = .ok (.iconst (-1), 1) := by decide +kernel
theorem dX6_init_237 : decode cX6_init 237 = .ok (.iastore, 1) := by decide +kernel
theorem dX6_init_238 : decode cX6_init 238 = .ok (.dup, 1) := by decide +kernel
theorem dX6_init_239 : decode cX6_init 239 = .ok (.iconst 3, 1) := by decide +kernel
theorem dX6_init_240 : decode cX6_init 240 = .ok (.iconst (-1), 1) := by decide +kernel
theorem dX6_init_241 : decode cX6_init 241 = .ok (.iastore, 1) := by decide +kernel
theorem dX6_init_242 : decode cX6_init 242 = .ok (.dup, 1) := by decide +kernel
theorem dX6_init_243 : decode cX6_init 243 = .ok (.iconst 4, 1) := by decide +kernel
theorem dX6_init_244 : decode cX6_init 244 = .ok (.iconst (-1), 1) := by decide +kernel
theorem dX6_init_245 : decode cX6_init 245 = .ok (.iastore, 1) := by decide +kernel
theorem dX6_init_246 : decode cX6_init 246 = .ok (.dup, 1) := by decide +kernel
theorem dX6_init_247 : decode cX6_init 247 = .ok (.iconst 5, 1) := by decide +kernel
theorem dX6_init_248 : decode cX6_init 248 = .ok (.iconst (-1), 1) := by decide +kernel
theorem dX6_init_249 : decode cX6_init 249 = .ok (.iastore, 1) := by decide +kernel
theorem dX6_init_250 : decode cX6_init 250 = .ok (.dup, 1) := by decide +kernel
theorem dX6_init_251 : decode cX6_init 251 = .ok (.bipush 6, 2) := by decide +kernel
theorem dX6_init_253 : decode cX6_init 253 = .ok (.iconst (-1), 1) := by decide +kernel
theorem dX6_init_254 : decode cX6_init 254 = .ok (.iastore, 1) := by decide +kernel
theorem dX6_init_255 : decode cX6_init 255 = .ok (.dup, 1) := by decide +kernel
theorem dX6_init_256 : decode cX6_init 256 = .ok (.bipush 7, 2) := by decide +kernel
theorem dX6_init_258 : decode cX6_init 258 = .ok (.iconst (-1), 1) := by decide +kernel
theorem dX6_init_259 : decode cX6_init 259 = .ok (.iastore, 1) := by decide +kernel
theorem dX6_init_260 : decode cX6_init 260 = .ok (.dup, 1) := by decide +kernel
theorem dX6_init_261 : decode cX6_init 261 = .ok (.bipush 8, 2) := by decide +kernel
theorem dX6_init_263 : decode cX6_init 263 = .ok (.iconst (-1), 1) := by decide +kernel
theorem dX6_init_264 : decode cX6_init 264 = .ok (.iastore, 1) := by decide +kernel
theorem dX6_init_265 : decode cX6_init 265 = .ok (.dup, 1) := by decide +kernel
theorem dX6_init_266 : decode cX6_init 266 = .ok (.bipush 9, 2) := by decide +kernel
theorem dX6_init_268 : decode cX6_init 268 = .ok (.iconst (-1), 1) := by decide +kernel
theorem dX6_init_269 : decode cX6_init 269 = .ok (.iastore, 1) := by decide +kernel
theorem dX6_init_270 : decode cX6_init 270 = .ok (.putfield 35, 3) := by decide +kernel
theorem dX6_init_273 : decode cX6_init 273 = .ok (.aload_n 0, 1) := by decide +kernel
theorem dX6_init_274 : decode cX6_init 274 = .ok (.bipush 10, 2) := by decide +kernel
theorem dX6_init_276 : decode cX6_init 276 = .ok (.newarray .int, 2) := by decide +kernel
theorem dX6_init_278 : decode cX6_init 278 = .ok (.putfield 38, 3) := by decide +kernel
theorem dX6_init_281 : decode cX6_init 281 = .ok (.aload_n 0, 1) := by decide +kernel
theorem dX6_init_282 : decode cX6_init 282 = .ok (.bipush 10, 2) := by decide +kernel
theorem dX6_init_284 : decode cX6_init 284 = .ok (.newarray .int, 2) := by decide +kernel
theorem dX6_init_286 : decode cX6_init 286 = .ok (.putfield 41, 3) := by decide +kernel
theorem dX6_init_289 : decode cX6_init 289 = .ok (.aload_n 0, 1) := by decide +kernel
theorem dX6_init_290 : decode cX6_init 290 = .ok (.bipush 10, 2) := by decide +kernel
theorem dX6_init_292 : decode cX6_init 292 = .ok (.newarray .int, 2) := by decide +kernel
theorem dX6_init_294 : decode cX6_init 294 = .ok (.putfield 44, 3) := by decide +kernel
theorem dX6_init_297 : decode cX6_init 297 = .ok (.aload_n 0, 1) := by decide +kernel
theorem dX6_init_298 : decode cX6_init 298 = .ok (.bipush 10, 2) := by decide +kernel
theorem dX6_init_300 : decode cX6_init 300 = .ok (.newarray .int, 2) := by decide +kernel
theorem dX6_init_302 : decode cX6_init 302 = .ok (.dup, 1) := by decide +kernel
theorem dX6_init_303 : decode cX6_init 303 = .ok (.iconst 0, 1) := by decide +kernel
theorem dX6_init_304 : decode cX6_init 304 = .ok (.iconst (-1), 1) := by decide +kernel
theorem dX6_init_305 : decode cX6_init 305 = .ok (.iastore, 1) := by decide +kernel
theorem dX6_init_306 : decode cX6_init 306 = .ok (.dup, 1) := by decide +kernel
theorem dX6_init_307 : decode cX6_init 307 = .ok (.iconst 1, 1) := by decide +kernel
theorem dX6_init_308 : decode cX6_init 308 = .ok (.iconst (-1), 1) := by decide +kernel
theorem dX6_init_309 : decode cX6_init 309 = .ok (.iastore, 1) := by decide +kernel
theorem dX6_init_310 : decode cX6_init 310 = .ok (.dup, 1) := by decide +kernel
theorem dX6_init_311 : decode cX6_init 311 = .ok (.iconst 2, 1) := by decide +kernel
theorem dX6_init_312 : decode cX6_init 312 = .ok (.iconst (-1), 1) := by decide +kernel
theorem dX6_init_313 : decode cX6_init 313 = .ok (.iastore, 1) := by decide +kernel
theorem dX6_init_314 : decode cX6_init 314 = .ok (.dup, 1) := by decide +kernel
theorem dX6_init_315 : decode cX6_init 315 = .ok (.iconst 3, 1) := by decide +kernel
theorem dX6_init_316 : decode cX6_init 316 = .ok (.iconst (-1), 1) := by decide +kernel
theorem dX6_init_317 : decode cX6_init 317 = .ok (.iastore, 1) := by decide +kernel
theorem dX6_init_318 : decode cX6_init 318 = .ok (.dup, 1) := by decide +kernel
theorem dX6_init_319 : decode cX6_init 319 = .ok (.iconst 4, 1) := by decide +kernel
theorem dX6_init_320 : decode cX6_init 320 = .ok (.iconst (-1), 1) := by decide +kernel
theorem dX6_init_321 : decode cX6_init 321 = .ok (.iastore, 1) := by decide +kernel
theorem dX6_init_322 : decode cX6_init 322 = .ok (.dup, 1) := by decide +kernel
theorem dX6_init_323 : decode cX6_init 323 = .ok (.iconst 5, 1) := by decide +kernel
theorem dX6_init_324 : decode cX6_init 324 = .ok (.iconst (-1), 1) := by decide +kernel
theorem dX6_init_325 : decode cX6_init 325 = .ok (.iastore, 1) := by decide +kernel
theorem dX6_init_326 : decode cX6_init 326 = .ok (.dup, 1) := by decide +kernel
theorem dX6_init_327 : decode cX6_init 327 = .ok (.bipush 6, 2) := by decide +kernel
theorem dX6_init_329 : decode cX6_init 329 = .ok (.iconst (-1), 1) := by decide +kernel
theorem dX6_init_330 : decode cX6_init 330 = .ok (.iastore, 1) := by decide +kernel
theorem dX6_init_331 : decode cX6_init 331 = .ok (.dup, 1) := by decide +kernel
theorem dX6_init_332 : decode cX6_init 332 = .ok (.bipush 7, 2) := by decide +kernel
theorem dX6_init_334 : decode cX6_init 334 = .ok (.iconst (-1), 1) := by decide +kernel
theorem dX6_init_335 : decode cX6_init 335 = .ok (.iastore, 1) := by decide +kernel
theorem dX6_init_336 : decode cX6_init 336 = .ok (.dup, 1) := by decide +kernel
theorem dX6_init_337 : decode cX6_init 337 = .ok (.bipush 8, 2) := by decide +kernel
theorem dX6_init_339 : decode cX6_init 339 = .ok (.iconst (-1), 1) := by decide +kernel
theorem dX6_init_340 : decode cX6_init 340 = .ok (.iastore, 1) := by decide +kernel
theorem dX6_init_341 : decode cX6_init 341 = .ok (.dup, 1) := by decide +kernel
theorem dX6_init_342 : decode cX6_init 342 = .ok (.bipush 9, 2) := by decide +kernel
theorem dX6_init_344 : decode cX6_init 344 = .ok (.iconst (-1), 1) := by decide +kernel
theorem dX6_init_345 : decode cX6_init 345 = .ok (.iastore, 1) := by decide +kernel
theorem dX6_init_346 : decode cX6_init 346 = .ok (.putfield 47, 3) := by decide +kernel
theorem dX6_init_349 : decode cX6_init 349 = .ok (.aload_n 0, 1) := by decide +kernel
theorem dX6_init_350 : decode cX6_init 350 = .ok (.bipush 10, 2) := by decide +kernel
theorem dX6_init_352 : decode cX6_init 352 = .ok (.newarray .int, 2) := by decide +kernel
theorem dX6_init_354 : decode cX6_init 354 = .ok (.dup, 1) := by decide +kernel
theorem dX6_init_355 : decode cX6_init 355 = .ok (.iconst 0, 1) := by decide +kernel
theorem dX6_init_356 : decode cX6_init 356 = .ok (.iconst (-1), 1) := by decide +kernel
theorem dX6_init_357 : decode cX6_init 357 = .ok (.iastore, 1) := by decide +kernel
theorem dX6_init_358 : decode cX6_init 358 = .ok (.dup, 1) := by decide +kernel
theorem dX6_init_359 : decode cX6_init 359 = .ok (.iconst 1, 1) := by decide +kernel
theorem dX6_init_360 : decode cX6_init 360 = .ok (.iconst (-1), 1) := by decide +kernel
theorem dX6_init_361 : decode cX6_init 361 = .ok (.iastore, 1) := by decide +kernel
theorem dX6_init_362 : decode cX6_init 362 = .ok (.dup, 1) := by decide +kernel
theorem dX6_init_363 : decode cX6_init 363 = .ok (.iconst 2, 1) := by decide +kernel
theorem dX6_init_364 : decode cX6_init 364 = .ok (.iconst (-1), 1) := by decide +kernel
theorem dX6_init_365 : decode cX6_init 365 = .ok (.iastore, 1) := by decide +kernel
theorem dX6_init_366 : decode cX6_init 366 = .ok (.dup, 1) := by decide +kernel
theorem dX6_init_367 : decode cX6_init 367 = .ok (.iconst 3, 1) := by decide +kernel
theorem dX6_init_368 : decode cX6_init 368 = .ok (.iconst (-1), 1) := by decide +kernel
theorem dX6_init_369 : decode cX6_init 369 = .ok (.iastore, 1) := by decide +kernel
theorem dX6_init_370 : decode cX6_init 370 = .ok (.dup, 1) := by decide +kernel
theorem dX6_init_371 : decode cX6_init 371 = .ok (.iconst 4, 1) := by decide +kernel
theorem dX6_init_372 : decode cX6_init 372 = .ok (.iconst (-1), 1) := by decide +kernel
theorem dX6_init_373 : decode cX6_init 373 = .ok (.iastore, 1) := by decide +kernel
theorem dX6_init_374 : decode cX6_init 374 = .ok (.dup, 1) := by decide +kernel
theorem dX6_init_375 : decode cX6_init 375 = .ok (.iconst 5, 1) := by decide +kernel
theorem dX6_init_376 : decode cX6_init 376 = .ok (.iconst (-1), 1) := by decide +kernel
theorem dX6_init_377 : decode cX6_init 377 = .ok (.iastore, 1) := by decide +kernel
theorem dX6_init_378 : decode cX6_init 378 = .ok (.dup, 1) := by decide +kernel
theorem dX6_init_379 : decode cX6_init 379 = .ok (.bipush 6, 2) := by decide +kernel
theorem dX6_init_381 : decode cX6_init 381 = .ok (.iconst (-1), 1) := by decide +kernel
theorem dX6_init_382 : decode cX6_init 382 = .ok (.iastore, 1) := by decide +kernel
theorem dX6_init_383 : decode cX6_init 383 = .ok (.dup, 1) := by decide +kernel
theorem dX6_init_384 : decode cX6_init 384 = .ok (.bipush 7, 2) := by decide +kernel
theorem dX6_init_386 : decode cX6_init 386 = .ok (.iconst (-1), 1) := by decide +kernel
theorem dX6_init_387 : decode cX6_init 387 = .ok (.iastore, 1) := by decide +kernel
theorem dX6_init_388 : decode cX6_init 388 = .ok (.dup, 1) := by decide +kernel
theorem dX6_init_389 : decode cX6_init 389 = .ok (.bipush 8, 2) := by decide +kernel
theorem dX6_init_391 : decode cX6_init 391 = .ok (.iconst (-1), 1) := by decide +kernel
theorem dX6_init_392 : decode cX6_init 392 = .ok (.iastore, 1) := by decide +kernel
theorem dX6_init_393 : decode cX6_init 393 = .ok (.dup, 1) := by decide +kernel
theorem dX6_init_394 : decode cX6_init 394 = .ok (.bipush 9, 2) := by decide +kernel
theorem dX6_init_396 : decode cX6_init 396 = .ok (.iconst (-1), 1) := by decide +kernel
theorem dX6_init_397 : decode cX6_init 397 = .ok (.iastore, 1) := by decide +kernel
theorem dX6_init_398 : decode cX6_init 398 = .ok (.putfield 50, 3) := by decide +kernel
theorem dX6_init_401 : decode cX6_init 401 = .ok (.aload_n 0, 1) := by decide +kernel
theorem dX6_init_402 : decode cX6_init 402 = .ok (.bipush 10, 2) := by decide +kernel
theorem dX6_init_404 : decode cX6_init 404 = .ok (.newarray .int, 2) := by decide +kernel
theorem dX6_init_406 : decode cX6_init 406 = .ok (.dup, 1) := by decide +kernel
theorem dX6_init_407 : decode cX6_init 407 = .ok (.iconst 0, 1) := by decide +kernel
theorem dX6_init_408 : decode cX6_init 408 = .ok (.bipush 20, 2) := by decide +kernel
theorem dX6_init_410 : decode cX6_init 410 = .ok (.iastore, 1) := by decide +kernel
theorem dX6_init_411 : decode cX6_init 411 = .ok (.dup, 1) := by decide +kernel
theorem dX6_init_412 : decode cX6_init 412 = .ok (.iconst 1, 1) := by decide +kernel
theorem dX6_init_413 : decode cX6_init 413 = .ok (.bipush 10, 2) := by decide +kernel
theorem dX6_init_415 : decode cX6_init 415 = .ok (.iastore, 1) := by decide +kernel
theorem dX6_init_416 : decode cX6_init 416 = .ok (.dup, 1) := by decide +kernel
theorem dX6_init_417 : decode cX6_init 417 = .ok (.iconst 2, 1) := by decide +kernel
theorem dX6_init_418 : decode cX6_init 418 = .ok (.iconst 5, 1) := by decide +kernel
theorem dX6_init_419 : decode cX6_init 419 = .ok (.iastore, 1) := by decide +kernel
theorem dX6_init_420 : decode cX6_init 420 = .ok (.dup, 1) := by decide +kernel
theorem dX6_init_421 : decode cX6_init 421 = .ok (.iconst 3, 1) := by decide +kernel
theorem dX6_init_422 : decode cX6_init 422 = .ok (.iconst 3, 1) := by decide +kernel
theorem dX6_init_423 : decode cX6_init 423 = .ok (.iastore, 1) := by decide +kernel
theorem dX6_init_424 : decode cX6_init 424 = .ok (.dup, 1) := by decide +kernel
theorem dX6_init_425 : decode cX6_init 425 = .ok (.iconst 4, 1) := by decide +kernel
theorem dX6_init_426 : decode cX6_init 426 = .ok (.iconst 5, 1) := by decide +kernel
theorem dX6_init_427 : decode cX6_init 427 = .ok (.iastore, 1) := by decide +kernel
theorem dX6_init_428 : decode cX6_init 428 = .ok (.dup, 1) := by decide +kernel
theorem dX6_init_429 : decode cX6_init 429 = .ok (.iconst 5, 1) := by decide +kernel
theorem dX6_init_430 : decode cX6_init 430 = .ok (.iconst 1, 1) := by decide +kernel
theorem dX6_init_431 : decode cX6_init 431 = .ok (.iastore, 1) := by decide +kernel
theorem dX6_init_432 : decode cX6_init 432 = .ok (.dup, 1) := by decide +kernel
theorem dX6_init_433 : decode cX6_init 433 = .ok (.bipush 6, 2) := by decide +kernel
theorem dX6_init_435 : decode cX6_init 435 = .ok (.bipush 10, 2) := by decide +kernel
theorem dX6_init_437 : decode cX6_init 437 = .ok (.iastore, 1) := by decide +kernel
theorem dX6_init_438 : decode cX6_init 438 = .ok (.dup, 1) := by decide +kernel
theorem dX6_init_439 : decode cX6_init 439 = .ok (.bipush 7, 2) := by decide +kernel
theorem dX6_init_441 : decode cX6_init 441 = .ok (.sipush 900, 3) := by decide +kernel
theorem dX6_init_444 : decode cX6_init 444 = .ok (.iastore, 1) := by decide +kernel
theorem dX6_init_445 : decode cX6_init 445 = .ok (.dup, 1) := by decide +kernel
theorem dX6_init_446 : decode cX6_init 446 = .ok (.bipush 8, 2) := by decide +kernel
theorem dX6_init_448 : decode cX6_init 448 = .ok (.sipush 300, 3) := by decide +kernel
theorem dX6_init_451 : decode cX6_init 451 = .ok (.iastore, 1) := by decide +kernel
theorem dX6_init_452 : decode cX6_init 452 = .ok (.dup, 1) := by decide +kernel
theorem dX6_init_453 : decode cX6_init 453 = .ok (.bipush 9, 2) := by decide +kernel
theorem dX6_init_455 : decode cX6_init 455 = .ok (.iconst 1, 1) := by decide +kernel
theorem dX6_init_456 : decode cX6_init 456 = .ok (.iastore, 1) := by decide +kernel
theorem dX6_init_457 : decode cX6_init 457 = .ok (.putfield 53, 3) := by decide +kernel
theorem dX6_init_460 : decode cX6_init 460 = .ok (.aload_n 0, 1) := by decide +kernel
theorem dX6_init_461 : decode cX6_init 461 = .ok (.sipush 400, 3) := by decide +kernel
theorem dX6_init_464 : decode cX6_init 464 = .ok (.newarray .int, 2) := by decide +kernel
theorem dX6_init_466 : decode cX6_init 466 = .ok (.putfield 56, 3) := by decide +kernel
theorem dX6_init_469 : decode cX6_init 469 = .ok (.aload_n 0, 1) := by decide +kernel
theorem dX6_init_470 : decode cX6_init 470 = .ok (.bipush 99, 2) := by decide +kernel
theorem dX6_init_472 : decode cX6_init 472 = .ok (.newarray .int, 2) := by decide +kernel
theorem dX6_init_474 : decode cX6_init 474 = .ok (.dup, 1) := by decide +kernel
theorem dX6_init_475 : decode cX6_init 475 = .ok (.iconst 0, 1) := by decide +kernel
theorem dX6_init_476 : decode cX6_init 476 = .ok (.bipush 32, 2) := by decide +kernel
theorem dX6_init_478 : decode cX6_init 478 = .ok (.iastore, 1) := by decide +kernel
theorem dX6_init_479 : decode cX6_init 479 = .ok (.dup, 1) := by decide +kernel
theorem dX6_init_480 : decode cX6_init 480 = .ok (.iconst 1, 1) := by decide +kernel
theorem dX6_init_481 : decode cX6_init 481 = .ok (.bipush 100, 2) := by decide +kernel
theorem dX6_init_483 : decode cX6_init 483 = .ok (.iastore, 1) := by decide +kernel
theorem dX6_init_484 : decode cX6_init 484 = .ok (.dup, 1) := by decide +kernel
theorem dX6_init_485 : decode cX6_init 485 = .ok (.iconst 2, 1) := by decide +kernel
theorem dX6_init_486 : decode cX6_init 486 = .ok (.bipush 111, 2) := by decide +kernel
theorem dX6_init_488 : decode cX6_init 488 = .ok (.iastore, 1) := by decide +kernel
theorem dX6_init_489 : decode cX6_init 489 = .ok (.dup, 1) := by decide +kernel
theorem dX6_init_490 : decode cX6_init 490 = .ok (.iconst 3, 1) := by decide +kernel
theorem dX6_init_491 : decode cX6_init 491 = .ok (.bipush 32, 2) := by decide +kernel
theorem dX6_init_493 : decode cX6_init 493 = .ok (.iastore, 1) := by decide +kernel
theorem dX6_init_494 : decode cX6_init 494 = .ok (.dup, 1) := by decide +kernel
theorem dX6_init_495 : decode cX6_init 495 = .ok (.iconst 4, 1) := by decide +kernel
theorem dX6_init_496 : decode cX6_init 496 = .ok (.bipush 119, 2) := by decide +kernel
theorem dX6_init_498 : decode cX6_init 498 = .ok (.iastore, 1) := by decide +kernel
theorem dX6_init_499 : decode cX6_init 499 = .ok (.dup, 1) := by decide +kernel
theorem dX6_init_500 : decode cX6_init 500 = .ok (.iconst 5, 1) := by decide +kernel
theorem dX6_init_501 : decode cX6_init 501 = .ok (.bipush 104, 2) := by decide +kernel
theorem dX6_init_503 : decode cX6_init 503 = .ok (.iastore, 1) := by decide +kernel
theorem dX6_init_504 : decode cX6_init 504 = .ok (.dup, 1) := by decide +kernel
theorem dX6_init_505 : decode cX6_init 505 = .ok (.bipush 6, 2) := by decide +kernel
theorem dX6_init_507 : decode cX6_init 507 = .ok (.bipush 101, 2) := by decide +kernel
theorem dX6_init_509 : decode cX6_init 509 = .ok (.iastore, 1) := by decide +kernel
theorem dX6_init_510 : decode cX6_init 510 = .ok (.dup, 1) := by decide +kernel
theorem dX6_init_511 : decode cX6_init 511 = .ok (.bipush 7, 2) := by decide +kernel
theorem dX6_init_513 : decode cX6_init 513 = .ok (.bipush 110, 2) := by decide +kernel
theorem dX6_init_515 : decode cX6_init 515 = .ok (.iastore, 1) := by decide +kernel
theorem dX6_init_516 : decode cX6_init 516 = .ok (.dup, 1) := by decide +kernel
theorem dX6_init_517 : decode cX6_init 517 = .ok (.bipush 8, 2) := by decide +kernel
theorem dX6_init_519 : decode cX6_init 519 = .ok (.bipush 32, 2) := by decide +kernel
theorem dX6_init_521 : decode cX6_init 521 = .ok (.iastore, 1) := by decide +kernel
theorem dX6_init_522 : decode cX6_init 522 = .ok (.dup, 1) := by decide +kernel
theorem dX6_init_523 : decode cX6_init 523 = .ok (.bipush 9, 2) := by decide +kernel
theorem dX6_init_525 : decode cX6_init 525 = .ok (.bipush 111, 2) := by decide +kernel
theorem dX6_init_527 : decode cX6_init 527 = .ok (.iastore, 1) := by decide +kernel
theorem dX6_init_528 : decode cX6_init 528 = .ok (.dup, 1) := by decide +kernel
theorem dX6_init_529 : decode cX6_init 529 = .ok (.bipush 10, 2) := by decide +kernel
theorem dX6_init_531 : decode cX6_init 531 = .ok (.bipush 114, 2) := by decide +kernel
theorem dX6_init_533 : decode cX6_init 533 = .ok (.iastore, 1) := by decide +kernel
theorem dX6_init_534 : decode cX6_init 534 = .ok (.dup, 1) := by decide +kernel
theorem dX6_init_535 : decode cX6_init 535 = .ok (.bipush 11, 2) := by decide +kernel
theorem dX6_init_537 : decode cX6_init 537 = .ok (.bipush 32, 2) := by decide +kernel
theorem dX6_init_539 : decode cX6_init 539 = .ok (.iastore, 1) := by decide +kernel
theorem dX6_init_540 : decode cX6_init 540 = .ok (.dup, 1) := by decide +kernel
theorem dX6_init_541 : decode cX6_init 541 = .ok (.bipush 12, 2) := by decide +kernel
theorem dX6_init_543 : decode cX6_init 543 = .ok (.bipush 97, 2) := by decide +kernel
theorem dX6_init_545 : decode cX6_init 545 = .ok (.iastore, 1) := by decide +kernel
theorem dX6_init_546 : decode cX6_init 546 = .ok (.dup, 1) := by decide +kernel
theorem dX6_init_547 : decode cX6_init 547 = .ok (.bipush 13, 2) := by decide +kernel
theorem dX6_init_549 : decode cX6_init 549 = .ok (.bipush 110, 2) := by decide +kernel
theorem dX6_init_551 : decode cX6_init 551 = .ok (.iastore, 1) := by decide +kernel
theorem dX6_init_552 : decode cX6_init 552 = .ok (.dup, 1) := by decide +kernel
theorem dX6_init_553 : decode cX6_init 553 = .ok (.bipush 14, 2) := by decide +kernel
theorem dX6_init_555 : decode cX6_init 555 = .ok (.bipush 100, 2) := by decide +kernel
theorem dX6_init_557 : decode cX6_init 557 = .ok (.iastore, 1) := by decide +kernel
theorem dX6_init_558 : decode cX6_init 558 = .ok (.dup, 1) := by decide +kernel
theorem dX6_init_559 : decode cX6_init 559 = .ok (.bipush 15, 2) := by decide +kernel
theorem dX6_init_561 : decode cX6_init 561 = .ok (.bipush 32, 2) := by decide +kernel
theorem dX6_init_563 : decode cX6_init 563 = .ok (.iastore, 1) := by decide +kernel
theorem dX6_init_564 : decode cX6_init 564 = .ok (.dup, 1) := by decide +kernel
theorem dX6_init_565 : decode cX6_init 565 = .ok (.bipush 16, 2) := by decide +kernel
theorem dX6_init_567 : decode cX6_init 567 = .ok (.bipush 110, 2) := by decide +kernel
theorem dX6_init_569 : decode cX6_init 569 = .ok (.iastore, 1) := by decide +kernel
theorem dX6_init_570 : decode cX6_init 570 = .ok (.dup, 1) := by decide +kernel
theorem dX6_init_571 : decode cX6_init 571 = .ok (.bipush 17, 2) := by decide +kernel
theorem dX6_init_573 : decode cX6_init 573 = .ok (.bipush 111, 2) := by decide +kernel
theorem dX6_init_575 : decode cX6_init 575 = .ok (.iastore, 1) := by decide +kernel
theorem dX6_init_576 : decode cX6_init 576 = .ok (.dup, 1) := by decide +kernel
theorem dX6_init_577 : decode cX6_init 577 = .ok (.bipush 18, 2) := by decide +kernel
theorem dX6_init_579 : decode cX6_init 579 = .ok (.bipush 116, 2) := by decide +kernel
theorem dX6_init_581 : decode cX6_init 581 = .ok (.iastore, 1) := by decide +kernel
theorem dX6_init_582 : decode cX6_init 582 = .ok (.dup, 1) := by decide +kernel
theorem dX6_init_583 : decode cX6_init 583 = .ok (.bipush 19, 2) := by decide +kernel
theorem dX6_init_585 : decode cX6_init 585 = .ok (.bipush 32, 2) := by decide +kernel
theorem dX6_init_587 : decode cX6_init 587 = .ok (.iastore, 1) := by decide +kernel
theorem dX6_init_588 : decode cX6_init 588 = .ok (.dup, 1) := by decide +kernel
theorem dX6_init_589 : decode cX6_init 589 = .ok (.bipush 20, 2) := by decide +kernel
theorem dX6_init_591 : decode cX6_init 591 = .ok (.bipush 119, 2) := by decide +kernel
theorem dX6_init_593 : decode cX6_init 593 = .ok (.iastore, 1) := by decide +kernel
theorem dX6_init_594 : decode cX6_init 594 = .ok (.dup, 1) := by decide +kernel
theorem dX6_init_595 : decode cX6_init 595 = .ok (.bipush 21, 2) := by decide +kernel
theorem dX6_init_597 : decode cX6_init 597 = .ok (.bipush 105, 2) := by decide +kernel
theorem dX6_init_599 : decode cX6_init 599 = .ok (.iastore, 1) := by decide +kernel
theorem dX6_init_600 : decode cX6_init 600 = .ok (.dup, 1) := by decide +kernel
theorem dX6_init_601 : decode cX6_init 601 = .ok (.bipush 22, 2) := by decide +kernel
theorem dX6_init_603 : decode cX6_init 603 = .ok (.bipush 100, 2) := by decide +kernel
theorem dX6_init_605 : decode cX6_init 605 = .ok (.iastore, 1) := by decide +kernel
theorem dX6_init_606 : decode cX6_init 606 = .ok (.dup, 1) := by decide +kernel
theorem dX6_init_607 : decode cX6_init 607 = .ok (.bipush 23, 2) := by decide +kernel
theorem dX6_init_609 : decode cX6_init 609 = .ok (.bipush 101, 2) := by decide +kernel
theorem dX6_init_611 : decode cX6_init 611 = .ok (.iastore, 1) := by decide +kernel
theorem dX6_init_612 : decode cX6_init 612 = .ok (.dup, 1) := by decide +kernel
theorem dX6_init_613 : decode cX6_init 613 = .ok (.bipush 24, 2) := by decide +kernel
theorem dX6_init_615 : decode cX6_init 615 = .ok (.bipush 32, 2) := by decide +kernel
theorem dX6_init_617 : decode cX6_init 617 = .ok (.iastore, 1) := by decide +kernel
theorem dX6_init_618 : decode cX6_init 618 = .ok (.dup, 1) := by decide +kernel
theorem dX6_init_619 : decode cX6_init 619 = .ok (.bipush 25, 2) := by decide +kernel
theorem dX6_init_621 : decode cX6_init 621 = .ok (.bipush 108, 2) := by decide +kernel
theorem dX6_init_623 : decode cX6_init 623 = .ok (.iastore, 1) := by decide +kernel
theorem dX6_init_624 : decode cX6_init 624 = .ok (.dup, 1) := by decide +kernel
theorem dX6_init_625 : decode cX6_init 625 = .ok (.bipush 26, 2) := by decide +kernel
theorem dX6_init_627 : decode cX6_init 627 = .ok (.bipush 119, 2) := by decide +kernel
theorem dX6_init_629 : decode cX6_init 629 = .ok (.iastore, 1) := by decide +kernel
theorem dX6_init_630 : decode cX6_init 630 = .ok (.dup, 1) := by decide +kernel
theorem dX6_init_631 : decode cX6_init 631 = .ok (.bipush 27, 2) := by decide +kernel
theorem dX6_init_633 : decode cX6_init 633 = .ok (.bipush 105, 2) := by decide +kernel
theorem dX6_init_635 : decode cX6_init 635 = .ok (.iastore, 1) := by decide +kernel
theorem dX6_init_636 : decode cX6_init 636 = .ok (.dup, 1) := by decide +kernel
theorem dX6_init_637 : decode cX6_init 637 = .ok (.bipush 28, 2) := by decide +kernel
theorem dX6_init_639 : decode cX6_init 639 = .ok (.bipush 100, 2) := by decide +kernel
theorem dX6_init_641 : decode cX6_init 641 = .ok (.iastore, 1) := by decide +kernel
theorem dX6_init_642 : decode cX6_init 642 = .ok (.dup, 1) := by decide +kernel
theorem dX6_init_643 : decode cX6_init 643 = .ok (.bipush 29, 2) := by decide +kernel
theorem dX6_init_645 : decode cX6_init 645 = .ok (.bipush 101, 2) := by decide +kernel
theorem dX6_init_647 : decode cX6_init 647 = .ok (.iastore, 1) := by decide +kernel
theorem dX6_init_648 : decode cX6_init 648 = .ok (.dup, 1) := by decide +kernel
theorem dX6_init_649 : decode cX6_init 649 = .ok (.bipush 30, 2) := by decide +kernel
theorem dX6_init_651 : decode cX6_init 651 = .ok (.bipush 32, 2) := by decide +kernel
theorem dX6_init_653 : decode cX6_init 653 = .ok (.iastore, 1) := by decide +kernel
theorem dX6_init_654 : decode cX6_init 654 = .ok (.dup, 1) := by decide +kernel
theorem dX6_init_655 : decode cX6_init 655 = .ok (.bipush 31, 2) := by decide +kernel
theorem dX6_init_657 : decode cX6_init 657 = .ok (.bipush 114, 2) := by decide +kernel
theorem dX6_init_659 : decode cX6_init 659 = .ok (.iastore, 1) := by decide +kernel
theorem dX6_init_660 : decode cX6_init 660 = .ok (.dup, 1) := by decide +kernel
theorem dX6_init_661 : decode cX6_init 661 = .ok (.bipush 32, 2) := by decide +kernel
theorem dX6_init_663 : decode cX6_init 663 = .ok (.bipush 119, 2) := by decide +kernel
theorem dX6_init_665 : decode cX6_init 665 = .ok (.iastore, 1) := by decide +kernel
theorem dX6_init_666 : decode cX6_init 666 = .ok (.dup, 1) := by decide +kernel
theorem dX6_init_667 : decode cX6_init 667 = .ok (.bipush 33, 2) := by decide +kernel
theorem dX6_init_669 : decode cX6_init 669 = .ok (.bipush 105, 2) := by decide +kernel
theorem dX6_init_671 : decode cX6_init 671 = .ok (.iastore, 1) := by decide +kernel
theorem dX6_init_672 : decode cX6_init 672 = .ok (.dup, 1) := by decide +kernel
theorem dX6_init_673 : decode cX6_init 673 = .ok (.bipush 34, 2) := by decide +kernel
theorem dX6_init_675 : decode cX6_init 675 = .ok (.bipush 100, 2) := by decide +kernel
theorem dX6_init_677 : decode cX6_init 677 = .ok (.iastore, 1) := by decide +kernel
theorem dX6_init_678 : decode cX6_init 678 = .ok (.dup, 1) := by decide +kernel
theorem dX6_init_679 : decode cX6_init 679 = .ok (.bipush 35, 2) := by decide +kernel
theorem dX6_init_681 : decode cX6_init 681 = .ok (.bipush 101, 2) := by decide +kernel
theorem dX6_init_683 : decode cX6_init 683 = .ok (.iastore, 1) := by decide +kernel
theorem dX6_init_684 : decode cX6_init 684 = .ok (.dup, 1) := by decide +kernel
theorem dX6_init_685 : decode cX6_init 685 = .ok (.bipush 36, 2) := by decide +kernel
theorem dX6_init_687 : decode cX6_init 687 = .ok (.bipush 32, 2) := by decide +kernel
theorem dX6_init_689 : decode cX6_init 689 = .ok (.iastore, 1) := by decide +kernel
theorem dX6_init_690 : decode cX6_init 690 = .ok (.dup, 1) := by decide +kernel
theorem dX6_init_691 : decode cX6_init 691 = .ok (.bipush 37, 2) := by decide +kernel
theorem dX6_init_693 : decode cX6_init 693 = .ok (.bipush 103, 2) := by decide +kernel
theorem dX6_init_695 : decode cX6_init 695 = .ok (.iastore, 1) := by decide +kernel
theorem dX6_init_696 : decode cX6_init 696 = .ok (.dup, 1) := by decide +kernel
theorem dX6_init_697 : decode cX6_init 697 = .ok (.bipush 38, 2) := by decide +kernel
theorem dX6_init_699 : decode cX6_init 699 = .ok (.bipush 97, 2) := by decide +kernel
theorem dX6_init_701 : decode cX6_init 701 = .ok (.iastore, 1) := by decide +kernel
theorem dX6_init_702 : decode cX6_init 702 = .ok (.dup, 1) := by decide +kernel
theorem dX6_init_703 : decode cX6_init 703 = .ok (.bipush 39, 2) := by decide +kernel
theorem dX6_init_705 : decode cX6_init 705 = .ok (.bipush 105, 2) := by decide +kernel
theorem dX6_init_707 : decode cX6_init 707 = .ok (.iastore, 1) := by decide +kernel
theorem dX6_init_708 : decode cX6_init 708 = .ok (.dup, 1) := by decide +kernel
theorem dX6_init_709 : decode cX6_init 709 = .ok (.bipush 40, 2) := by decide +kernel
theorem dX6_init_711 : decode cX6_init 711 = .ok (.bipush 110, 2) := by decide +kernel
theorem dX6_init_713 : decode cX6_init 713 = .ok (.iastore, 1) := by decide +kernel
theorem dX6_init_714 : decode cX6_init 714 = .ok (.dup, 1) := by decide +kernel
theorem dX6_init_715 : decode cX6_init 715 = .ok (.bipush 41, 2) := by decide +kernel
theorem dX6_init_717 : decode cX6_init 717 = .ok (.bipush 32, 2) := by decide +kernel
theorem dX6_init_719 : decode cX6_init 719 = .ok (.iastore, 1) := by decide +kernel
theorem dX6_init_720 : decode cX6_init 720 = .ok (.dup, 1) := by decide +kernel
theorem dX6_init_721 : decode cX6_init 721 = .ok (.bipush 42, 2) := by decide +kernel
theorem dX6_init_723 : decode cX6_init 723 = .ok (.bipush 108, 2) := by decide +kernel
theorem dX6_init_725 : decode cX6_init 725 = .ok (.iastore, 1) := by decide +kernel
theorem dX6_init_726 : decode cX6_init 726 = .ok (.dup, 1) := by decide +kernel
theorem dX6_init_727 : decode cX6_init 727 = .ok (.bipush 43, 2) := by decide +kernel
theorem dX6_init_729 : decode cX6_init 729 = .ok (.bipush 111, 2) := by decide +kernel
theorem dX6_init_731 : decode cX6_init 731 = .ok (.iastore, 1) := by decide +kernel
theorem dX6_init_732 : decode cX6_init 732 = .ok (.dup, 1) := by decide +kernel
theorem dX6_init_733 : decode cX6_init 733 = .ok (.bipush 44, 2) := by decide +kernel
theorem dX6_init_735 : decode cX6_init 735 = .ok (.bipush 115, 2) := by decide +kernel
theorem dX6_init_737 : decode cX6_init 737 = .ok (.iastore, 1) := by decide +kernel
theorem dX6_init_738 : decode cX6_init 738 = .ok (.dup, 1) := by decide +kernel
theorem dX6_init_739 : decode cX6_init 739 = .ok (.bipush 45, 2) := by decide +kernel
theorem dX6_init_741 : decode cX6_init 741 = .ok (.bipush 115, 2) := by decide +kernel
theorem dX6_init_743 : decode cX6_init 743 = .ok (.iastore, 1) := by decide +kernel
theorem dX6_init_744 : decode cX6_init 744 = .ok (.dup, 1) := by decide +kernel
theorem dX6_init_745 : decode cX6_init 745 = .ok (.bipush 46, 2) := by decide +kernel
theorem dX6_init_747 : decode cX6_init 747 = .ok (.bipush 32, 2) := by decide +kernel
theorem dX6_init_749 : decode cX6_init 749 = .ok (.iastore, 1) := by decide +kernel
theorem dX6_init_750 : decode cX6_init 750 = .ok (.dup, 1) := by decide +kernel
theorem dX6_init_751 : decode cX6_init 751 = .ok (.bipush 47, 2) := by decide +kernel
theorem dX6_init_753 : decode cX6_init 753 = .ok (.bipush 110, 2) := by decide +kernel
theorem dX6_init_755 : decode cX6_init 755 = .ok (.iastore, 1) := by decide +kernel
theorem dX6_init_756 : decode cX6_init 756 = .ok (.dup, 1) := by decide +kernel
theorem dX6_init_757 : decode cX6_init 757 = .ok (.bipush 48, 2) := by decide +kernel
theorem dX6_init_759 : decode cX6_init 759 = .ok (.bipush 105, 2) := by decide +kernel
theorem dX6_init_761 : decode cX6_init 761 = .ok (.iastore, 1) := by decide +kernel
theorem dX6_init_762 : decode cX6_init 762 = .ok (.dup, 1) := by decide +kernel
theorem dX6_init_763 : decode cX6_init 763 = .ok (.bipush 49, 2) := by decide +kernel
theorem dX6_init_765 : decode cX6_init 765 = .ok (.bipush 103, 2) := by decide +kernel
theorem dX6_init_767 : decode cX6_init 767 = .ok (.iastore, 1) := by decide +kernel
theorem dX6_init_768 : decode cX6_init 768 = .ok (.dup, 1) := by decide +kernel
theorem dX6_init_769 : decode cX6_init 769 = .ok (.bipush 50, 2) := by decide +kernel
theorem dX6_init_771 : decode cX6_init 771 = .ok (.bipush 104, 2) := by decide +kernel
theorem dX6_init_773 : decode cX6_init 773 = .ok (.iastore, 1) := by decide +kernel
theorem dX6_init_774 : decode cX6_init 774 = .ok (.dup, 1) := by decide +kernel
theorem dX6_init_775 : decode cX6_init 775 = .ok (.bipush 51, 2) := by decide +kernel
theorem dX6_init_777 : decode cX6_init 777 = .ok (.bipush 116, 2) := by decide +kernel
theorem dX6_init_779 : decode cX6_init 779 = .ok (.iastore, 1) := by decide +kernel
theorem dX6_init_780 : decode cX6_init 780 = .ok (.dup, 1) := by decide +kernel
theorem dX6_init_781 : decode cX6_init 781 = .ok (.bipush 52, 2) := by decide +kernel
theorem dX6_init_783 : decode cX6_init 783 = .ok (.bipush 32, 2) := by decide +kernel
theorem dX6_init_785 : decode cX6_init 785 = .ok (.iastore, 1) := by decide +kernel
theorem dX6_init_786 : decode cX6_init 786 = .ok (.dup, 1) := by decide +kernel
theorem dX6_init_787 : decode cX6_init 787 = .ok (.bipush 53, 2) := by decide +kernel
theorem dX6_init_789 : decode cX6_init 789 = .ok (.bipush 104, 2) := by decide +kernel
theorem dX6_init_791 : decode cX6_init 791 = .ok (.iastore, 1) := by decide +kernel
theorem dX6_init_792 : decode cX6_init 792 = .ok (.dup, 1) := by decide +kernel
theorem dX6_init_793 : decode cX6_init 793 = .ok (.bipush 54, 2) := by decide +kernel
theorem dX6_init_795 : decode cX6_init 795 = .ok (.bipush 105, 2) := by decide +kernel
theorem dX6_init_797 : decode cX6_init 797 = .ok (.iastore, 1) := by decide +kernel
theorem dX6_init_798 : decode cX6_init 798 = .ok (.dup, 1) := by decide +kernel
theorem dX6_init_799 : decode cX6_init 799 = .ok (.bipush 55, 2) := by decide +kernel
theorem dX6_init_801 : decode cX6_init 801 = .ok (.bipush 116, 2) := by decide +kernel
theorem dX6_init_803 : decode cX6_init 803 = .ok (.iastore, 1) := by decide +kernel
theorem dX6_init_804 : decode cX6_init 804 = .ok (.dup, 1) := by decide +kernel
theorem dX6_init_805 : decode cX6_init 805 = .ok (.bipush 56, 2) := by decide +kernel
theorem dX6_init_807 : decode cX6_init 807 = .ok (.bipush 32, 2) := by decide +kernel
theorem dX6_init_809 : decode cX6_init 809 = .ok (.iastore, 1) := by decide +kernel
theorem dX6_init_810 : decode cX6_init 810 = .ok (.dup, 1) := by decide +kernel
theorem dX6_init_811 : decode cX6_init 811 = .ok (.bipush 57, 2) := by decide +kernel
theorem dX6_init_813 : decode cX6_init 813 = .ok (.bipush 100, 2) := by decide +kernel
theorem dX6_init_815 : decode cX6_init 815 = .ok (.iastore, 1) := by decide +kernel
theorem dX6_init_816 : decode cX6_init 816 = .ok (.dup, 1) := by decide +kernel
theorem dX6_init_817 : decode cX6_init 817 = .ok (.bipush 58, 2) := by decide +kernel
theorem dX6_init_819 : decode cX6_init 819 = .ok (.bipush 111, 2) := by decide +kernel
theorem dX6_init_821 : decode cX6_init 821 = .ok (.iastore, 1) := by decide +kernel
theorem dX6_init_822 : decode cX6_init 822 = .ok (.dup, 1) := by decide +kernel
theorem dX6_init_823 : decode cX6_init 823 = .ok (.bipush 59, 2) := by decide +kernel
theorem dX6_init_825 : decode cX6_init 825 = .ok (.bipush 103, 2) := by decide +kernel
theorem dX6_init_827 : decode cX6_init 827 = .ok (.iastore, 1) := by decide +kernel
theorem dX6_init_828 : decode cX6_init 828 = .ok (.dup, 1) := by decide +kernel
theorem dX6_init_829 : decode cX6_init 829 = .ok (.bipush 60, 2) := by decide +kernel
theorem dX6_init_831 : decode cX6_init 831 = .ok (.bipush 32, 2) := by decide +kernel
theorem dX6_init_833 : decode cX6_init 833 = .ok (.iastore, 1) := by decide +kernel
theorem dX6_init_834 : decode cX6_init 834 = .ok (.dup, 1) := by decide +kernel
theorem dX6_init_835 : decode cX6_init 835 = .ok (.bipush 61, 2) := by decide +kernel
theorem dX6_init_837 : decode cX6_init 837 = .ok (.bipush 108, 2) := by decide +kernel
theorem dX6_init_839 : decode cX6_init 839 = .ok (.iastore, 1) := by decide +kernel
theorem dX6_init_840 : decode cX6_init 840 = .ok (.dup, 1) := by decide +kernel
theorem dX6_init_841 : decode cX6_init 841 = .ok (.bipush 62, 2) := by decide +kernel
theorem dX6_init_843 : decode cX6_init 843 = .ok (.bipush 100, 2) := by decide +kernel
theorem dX6_init_845 : decode cX6_init 845 = .ok (.iastore, 1) := by decide +kernel
theorem dX6_init_846 : decode cX6_init 846 = .ok (.dup, 1) := by decide +kernel
theorem dX6_init_847 : decode cX6_init 847 = .ok (.bipush 63, 2) := by decide +kernel
theorem dX6_init_849 : decode cX6_init 849 = .ok (.bipush 111, 2) := by decide +kernel
theorem dX6_init_851 : decode cX6_init 851 = .ok (.iastore, 1) := by decide +kernel
theorem dX6_init_852 : decode cX6_init 852 = .ok (.dup, 1) := by decide +kernel
theorem dX6_init_853 : decode cX6_init 853 = .ok (.bipush 64, 2) := by decide +kernel
theorem dX6_init_855 : decode cX6_init 855 = .ok (.bipush 103, 2) := by decide +kernel
theorem dX6_init_857 : decode cX6_init 857 = .ok (.iastore, 1) := by decide +kernel
theorem dX6_init_858 : decode cX6_init 858 = .ok (.dup, 1) := by decide +kernel
theorem dX6_init_859 : decode cX6_init 859 = .ok (.bipush 65, 2) := by decide +kernel
theorem dX6_init_861 : decode cX6_init 861 = .ok (.bipush 32, 2) := by decide +kernel
theorem dX6_init_863 : decode cX6_init 863 = .ok (.iastore, 1) := by decide +kernel
theorem dX6_init_864 : decode cX6_init 864 = .ok (.dup, 1) := by decide +kernel
theorem dX6_init_865 : decode cX6_init 865 = .ok (.bipush 66, 2) := by decide +kernel
theorem dX6_init_867 : decode cX6_init 867 = .ok (.bipush 114, 2) := by decide +kernel
theorem dX6_init_869 : decode cX6_init 869 = .ok (.iastore, 1) := by decide +kernel
theorem dX6_init_870 : decode cX6_init 870 = .ok (.dup, 1) := by decide +kernel
theorem dX6_init_871 : decode cX6_init 871 = .ok (.bipush 67, 2) := by decide +kernel
theorem dX6_init_873 : decode cX6_init 873 = .ok (.bipush 100, 2) := by decide +kernel
theorem dX6_init_875 : decode cX6_init 875 = .ok (.iastore, 1) := by decide +kernel
theorem dX6_init_876 : decode cX6_init 876 = .ok (.dup, 1) := by decide +kernel
theorem dX6_init_877 : decode cX6_init 877 = .ok (.bipush 68, 2) := by decide +kernel
theorem dX6_init_879 : decode cX6_init 879 = .ok (.bipush 111, 2) := by decide +kernel
theorem dX6_init_881 : decode cX6_init 881 = .ok (.iastore, 1) := by decide +kernel
theorem dX6_init_882 : decode cX6_init 882 = .ok (.dup, 1) := by decide +kernel
theorem dX6_init_883 : decode cX6_init 883 = .ok (.bipush 69, 2) := by decide +kernel
theorem dX6_init_885 : decode cX6_init 885 = .ok (.bipush 103, 2) := by decide +kernel
theorem dX6_init_887 : decode cX6_init 887 = .ok (.iastore, 1) := by decide +kernel
theorem dX6_init_888 : decode cX6_init 888 = .ok (.dup, 1) := by decide +kernel
theorem dX6_init_889 : decode cX6_init 889 = .ok (.bipush 70, 2) := by decide +kernel
theorem dX6_init_891 : decode cX6_init 891 = .ok (.bipush 32, 2) := by decide +kernel
theorem dX6_init_893 : decode cX6_init 893 = .ok (.iastore, 1) := by decide +kernel
theorem dX6_init_894 : decode cX6_init 894 = .ok (.dup, 1) := by decide +kernel
theorem dX6_init_895 : decode cX6_init 895 = .ok (.bipush 71, 2) := by decide +kernel
theorem dX6_init_897 : decode cX6_init 897 = .ok (.bipush 108, 2) := by decide +kernel
theorem dX6_init_899 : decode cX6_init 899 = .ok (.iastore, 1) := by decide +kernel
theorem dX6_init_900 : decode cX6_init 900 = .ok (.dup, 1) := by decide +kernel
theorem dX6_init_901 : decode cX6_init 901 = .ok (.bipush 72, 2) := by decide +kernel
theorem dX6_init_903 : decode cX6_init 903 = .ok (.bipush 107, 2) := by decide +kernel
theorem dX6_init_905 : decode cX6_init 905 = .ok (.iastore, 1) := by decide +kernel
theorem dX6_init_906 : decode cX6_init 906 = .ok (.dup, 1) := by decide +kernel
theorem dX6_init_907 : decode cX6_init 907 = .ok (.bipush 73, 2) := by decide +kernel
theorem dX6_init_909 : decode cX6_init 909 = .ok (.bipush 105, 2) := by decide +kernel
theorem dX6_init_911 : decode cX6_init 911 = .ok (.iastore, 1) := by decide +kernel
theorem dX6_init_912 : decode cX6_init 912 = .ok (.dup, 1) := by decide +kernel
theorem dX6_init_913 : decode cX6_init 913 = .ok (.bipush 74, 2) := by decide +kernel
theorem dX6_init_915 : decode cX6_init 915 = .ok (.bipush 110, 2) := by decide +kernel
theorem dX6_init_917 : decode cX6_init 917 = .ok (.iastore, 1) := by decide +kernel
theorem dX6_init_918 : decode cX6_init 918 = .ok (.dup, 1) := by decide +kernel
theorem dX6_init_919 : decode cX6_init 919 = .ok (.bipush 75, 2) := by decide +kernel
theorem dX6_init_921 : decode cX6_init 921 = .ok (.bipush 32, 2) := by decide +kernel
theorem dX6_init_923 : decode cX6_init 923 = .ok (.iastore, 1) := by decide +kernel
theorem dX6_init_924 : decode cX6_init 924 = .ok (.dup, 1) := by decide +kernel
theorem dX6_init_925 : decode cX6_init 925 = .ok (.bipush 76, 2) := by decide +kernel
theorem dX6_init_927 : decode cX6_init 927 = .ok (.bipush 114, 2) := by decide +kernel
theorem dX6_init_929 : decode cX6_init 929 = .ok (.iastore, 1) := by decide +kernel
theorem dX6_init_930 : decode cX6_init 930 = .ok (.dup, 1) := by decide +kernel
theorem dX6_init_931 : decode cX6_init 931 = .ok (.bipush 77, 2) := by decide +kernel
theorem dX6_init_933 : decode cX6_init 933 = .ok (.bipush 107, 2) := by decide +kernel
theorem dX6_init_935 : decode cX6_init 935 = .ok (.iastore, 1) := by decide +kernel
theorem dX6_init_936 : decode cX6_init 936 = .ok (.dup, 1) := by decide +kernel
theorem dX6_init_937 : decode cX6_init 937 = .ok (.bipush 78, 2) := by decide +kernel
theorem dX6_init_939 : decode cX6_init 939 = .ok (.bipush 105, 2) := by decide +kernel
theorem dX6_init_941 : decode cX6_init 941 = .ok (.iastore, 1) := by decide +kernel
theorem dX6_init_942 : decode cX6_init 942 = .ok (.dup, 1) := by decide +kernel
theorem dX6_init_943 : decode cX6_init 943 = .ok (.bipush 79, 2) := by decide +kernel
theorem dX6_init_945 : decode cX6_init 945 = .ok (.bipush 110, 2) := by decide +kernel
theorem dX6_init_947 : decode cX6_init 947 = .ok (.iastore, 1) := by decide +kernel
theorem dX6_init_948 : decode cX6_init 948 = .ok (.dup, 1) := by decide +kernel
theorem dX6_init_949 : decode cX6_init 949 = .ok (.bipush 80, 2) := by decide +kernel
theorem dX6_init_951 : decode cX6_init 951 = .ok (.bipush 32, 2) := by decide +kernel
theorem dX6_init_953 : decode cX6_init 953 = .ok (.iastore, 1) := by decide +kernel
theorem dX6_init_954 : decode cX6_init 954 = .ok (.dup, 1) := by decide +kernel
theorem dX6_init_955 : decode cX6_init 955 = .ok (.bipush 81, 2) := by decide +kernel
theorem dX6_init_957 : decode cX6_init 957 = .ok (.bipush 108, 2) := by decide +kernel
theorem dX6_init_959 : decode cX6_init 959 = .ok (.iastore, 1) := by decide +kernel
theorem dX6_init_960 : decode cX6_init 960 = .ok (.dup, 1) := by decide +kernel
theorem dX6_init_961 : decode cX6_init 961 = .ok (.bipush 82, 2) := by decide +kernel
theorem dX6_init_963 : decode cX6_init 963 = .ok (.bipush 119, 2) := by decide +kernel
theorem dX6_init_965 : decode cX6_init 965 = .ok (.iastore, 1) := by decide +kernel
theorem dX6_init_966 : decode cX6_init 966 = .ok (.dup, 1) := by decide +kernel
theorem dX6_init_967 : decode cX6_init 967 = .ok (.bipush 83, 2) := by decide +kernel
theorem dX6_init_969 : decode cX6_init 969 = .ok (.bipush 97, 2) := by decide +kernel
theorem dX6_init_971 : decode cX6_init 971 = .ok (.iastore, 1) := by decide +kernel
theorem dX6_init_972 : decode cX6_init 972 = .ok (.dup, 1) := by decide +kernel
theorem dX6_init_973 : decode cX6_init 973 = .ok (.bipush 84, 2) := by decide +kernel
theorem dX6_init_975 : decode cX6_init 975 = .ok (.bipush 108, 2) := by decide +kernel
theorem dX6_init_977 : decode cX6_init 977 = .ok (.iastore, 1) := by decide +kernel
theorem dX6_init_978 : decode cX6_init 978 = .ok (.dup, 1) := by decide +kernel
theorem dX6_init_979 : decode cX6_init 979 = .ok (.bipush 85, 2) := by decide +kernel
theorem dX6_init_981 : decode cX6_init 981 = .ok (.bipush 108, 2) := by decide +kernel
theorem dX6_init_983 : decode cX6_init 983 = .ok (.iastore, 1) := by decide +kernel
theorem dX6_init_984 : decode cX6_init 984 = .ok (.dup, 1) := by decide +kernel
theorem dX6_init_985 : decode cX6_init 985 = .ok (.bipush 86, 2) := by decide +kernel
theorem dX6_init_987 : decode cX6_init 987 = .ok (.bipush 32, 2) := by decide +kernel
theorem dX6_init_989 : decode cX6_init 989 = .ok (.iastore, 1) := by decide +kernel
theorem dX6_init_990 : decode cX6_init 990 = .ok (.dup, 1) := by decide +kernel
theorem dX6_init_991 : decode cX6_init 991 = .ok (.bipush 87, 2) := by decide +kernel
theorem dX6_init_993 : decode cX6_init 993 = .ok (.bipush 114, 2) := by decide +kernel
theorem dX6_init_995 : decode cX6_init 995 = .ok (.iastore, 1) := by decide +kernel
theorem dX6_init_996 : decode cX6_init 996 = .ok (.dup, 1) := by decide +kernel
theorem dX6_init_997 : decode cX6_init 997 = .ok (.bipush 88, 2) := by decide +kernel
theorem dX6_init_999 : decode cX6_init 999 = .ok (.bipush 119, 2) := by decide +kernel
theorem dX6_init_1001 : decode cX6_init 1001 = .ok (.iastore, 1) := by decide +kernel
theorem dX6_init_1002 : decode cX6_init 1002 = .ok (.dup, 1) := by decide +kernel
theorem dX6_init_1003 : decode cX6_init 1003 = .ok (.bipush 89, 2) := by decide +kernel
theorem dX6_init_1005 : decode cX6_init 1005 = .ok (.bipush 97, 2) := by decide +kernel
theorem dX6_init_1007 : decode cX6_init 1007 = .ok (.iastore, 1) := by decide +kernel
theorem dX6_init_1008 : decode cX6_init 1008 = .ok (.dup, 1) := by decide +kernel
theorem dX6_init_1009 : decode cX6_init 1009 = .ok (.bipush 90, 2) := by decide +kernel
theorem dX6_init_1011 : decode cX6_init 1011 = .ok (.bipush 108, 2) := by decide +kernel
theorem dX6_init_1013 : decode cX6_init 1013 = .ok (.iastore, 1) := by decide +kernel
theorem dX6_init_1014 : decode cX6_init 1014 = .ok (.dup, 1) := by decide +kernel
theorem dX6_init_1015 : decode cX6_init 1015 = .ok (.bipush 91, 2) := by decide +kernel
theorem dX6_init_1017 : decode cX6_init 1017 = .ok (.bipush 108, 2) := by decide +kernel
theorem dX6_init_1019 : decode cX6_init 1019 = .ok (.iastore, 1) := by decide +kernel
theorem dX6_init_1020 : decode cX6_init 1020 = .ok (.dup, 1) := by decide +kernel
theorem dX6_init_1021 : decode cX6_init 1021 = .ok (.bipush 92, 2) := by decide +kernel
theorem dX6_init_1023 : decode cX6_init 1023 = .ok (.bipush 32, 2) := by decide +kernel
theorem dX6_init_1025 : decode cX6_init 1025 = .ok (.iastore, 1) := by decide +kernel
theorem dX6_init_1026 : decode cX6_init 1026 = .ok (.dup, 1) := by decide +kernel
theorem dX6_init_1027 : decode cX6_init 1027 = .ok (.bipush 93, 2) := by decide +kernel
theorem dX6_init_1029 : decode cX6_init 1029 = .ok (.bipush 112, 2) := by decide +kernel
theorem dX6_init_1031 : decode cX6_init 1031 = .ok (.iastore, 1) := by decide +kernel
theorem dX6_init_1032 : decode cX6_init 1032 = .ok (.dup, 1) := by decide +kernel
theorem dX6_init_1033 : decode cX6_init 1033 = .ok (.bipush 94, 2) := by decide +kernel
theorem dX6_init_1035 : decode cX6_init 1035 = .ok (.bipush 117, 2) := by decide +kernel
theorem dX6_init_1037 : decode cX6_init 1037 = .ok (.iastore, 1) := by decide +kernel
theorem dX6_init_1038 : decode cX6_init 1038 = .ok (.dup, 1) := by decide +kernel
theorem dX6_init_1039 : decode cX6_init 1039 = .ok (.bipush 95, 2) := by decide +kernel
theorem dX6_init_1041 : decode cX6_init 1041 = .ok (.bipush 114, 2) := by decide +kernel
theorem dX6_init_1043 : decode cX6_init 1043 = .ok (.iastore, 1) := by decide +kernel
theorem dX6_init_1044 : decode cX6_init 1044 = .ok (.dup, 1) := by decide +kernel
theorem dX6_init_1045 : decode cX6_init 1045 = .ok (.bipush 96, 2) := by decide +kernel
theorem dX6_init_1047 : decode cX6_init 1047 = .ok (.bipush 115, 2) := by decide +kernel
theorem dX6_init_1049 : decode cX6_init 1049 = .ok (.iastore, 1) := by decide +kernel
theorem dX6_init_1050 : decode cX6_init 1050 = .ok (.dup, 1) := by decide +kernel
theorem dX6_init_1051 : decode cX6_init 1051 = .ok (.bipush 97, 2) := by decide +kernel
theorem dX6_init_1053 : decode cX6_init 1053 = .ok (.bipush 101, 2) := by decide +kernel
theorem dX6_init_1055 : decode cX6_init 1055 = .ok (.iastore, 1) := by decide +kernel
theorem dX6_init_1056 : decode cX6_init 1056 = .ok (.dup, 1) := by decide +kernel
theorem dX6_init_1057 : decode cX6_init 1057 = .ok (.bipush 98, 2) := by decide +kernel
theorem dX6_init_1059 : decode cX6_init 1059 = .ok (.bipush 32, 2) := by decide +kernel
theorem dX6_init_1061 : decode cX6_init 1061 = .ok (.iastore, 1) := by decide +kernel
theorem dX6_init_1062 : decode cX6_init 1062 = .ok (.putfield 59, 3) := by decide +kernel
theorem dX6_init_1065 : decode cX6_init 1065 = .ok (.aload_n 0, 1) := by decide +kernel
theorem dX6_init_1066 : decode cX6_init 1066 = .ok (.iconst 5, 1) := by decide +kernel
theorem dX6_init_1067 : decode cX6_init 1067 = .ok (.newarray .int, 2) := by decide +kernel
theorem dX6_init_1069 : decode cX6_init 1069 = .ok (.putfield 62, 3) := by decide +kernel
theorem dX6_init_1072 : decode cX6_init 1072 = .ok (.aload_n 0, 1) := by decide +kernel
theorem dX6_init_1073 : decode cX6_init 1073 = .ok (.bipush 80, 2) := by decide +kernel
theorem dX6_init_1075 : decode cX6_init 1075 = .ok (.newarray .int, 2) := by decide +kernel
theorem dX6_init_1077 : decode cX6_init 1077 = .ok (.putfield 65, 3) := by decide +kernel
theorem dX6_init_1080 : decode cX6_init 1080 = .ok (.aload_n 0, 1) := by decide +kernel
theorem dX6_init_1081 : decode cX6_init 1081 = .ok (.bipush 80, 2) := by decide +kernel
theorem dX6_init_1083 : decode cX6_init 1083 = .ok (.newarray .int, 2) := by decide +kernel
theorem dX6_init_1085 : decode cX6_init 1085 = .ok (.putfield 68, 3) := by decide +kernel
theorem dX6_init_1088 : decode cX6_init 1088 = .ok (.aload_n 0, 1) := by decide +kernel
theorem dX6_init_1089 : decode cX6_init 1089 = .ok (.bipush 80, 2) := by decide +kernel
theorem dX6_init_1091 : decode cX6_init 1091 = .ok (.newarray .int, 2) := by decide +kernel
theorem dX6_init_1093 : decode cX6_init 1093 = .ok (.putfield 71, 3) := by decide +kernel
theorem dX6_init_1096 : decode cX6_init 1096 = .ok (.aload_n 0, 1) := by decide +kernel
theorem dX6_init_1097 : decode cX6_init 1097 = .ok (.sipush 2000, 3) := by decide +kernel
theorem dX6_init_1100 : decode cX6_init 1100 = .ok (.newarray .int, 2) := by decide +kernel
theorem dX6_init_1102 : decode cX6_init 1102 = .ok (.putfield 74, 3) := by decide +kernel
theorem dX6_init_1105 : decode cX6_init 1105 = .ok (.aload_n 0, 1) := by decide +kernel
theorem dX6_init_1106 : decode cX6_init 1106 = .ok (.sipush 2000, 3) := by decide +kernel
theorem dX6_init_1109 : decode cX6_init 1109 = .ok (.newarray .int, 2) := by decide +kernel
theorem dX6_init_1111 : decode cX6_init 1111 = .ok (.putfield 77, 3) := by decide +kernel
theorem dX6_init_1114 : decode cX6_init 1114 = .ok (.aload_n 0, 1) := by decide +kernel
theorem dX6_init_1115 : decode cX6_init 1115 = .ok (.bipush 40, 2) := by decide +kernel
theorem dX6_init_1117 : decode cX6_init 1117 = .ok (.newarray .int, 2) := by decide +kernel
theorem dX6_init_1119 : decode cX6_init 1119 = .ok (.putfield 80, 3) := by decide +kernel
theorem dX6_init_1122 : decode cX6_init 1122 = .ok (.aload_n 0, 1) := by decide +kernel
theorem dX6_init_1123 : decode cX6_init 1123 = .ok (.iconst (-1), 1) := by decide +kernel
theorem dX6_init_1124 : decode cX6_init 1124 = .ok (.putfield 83, 3) := by decide +kernel
theorem dX6_init_1127 : decode cX6_init 1127 = .ok (.aload_n 0, 1) := by decide +kernel
theorem dX6_init_1128 : decode cX6_init 1128 = .ok (.bipush 15, 2) := by decide +kernel
theorem dX6_init_1130 : decode cX6_init 1130 = .ok (.newarray .int, 2) := by decide +kernel
theorem dX6_init_1132 : decode cX6_init 1132 = .ok (.putfield 86, 3) := by decide +kernel
theorem dX6_init_1135 : decode cX6_init 1135 = .ok (.aload_n 0, 1) := by decide +kernel
theorem dX6_init_1136 : decode cX6_init 1136 = .ok (.sipush 420, 3) := by decide +kernel
theorem dX6_init_1139 : decode cX6_init 1139 = .ok (.newarray .int, 2) := by decide +kernel
theorem dX6_init_1141 : decode cX6_init 1141 = .ok (.putfield 89, 3) := by decide +kernel
theorem dX6_init_1144 : decode cX6_init 1144 = .ok (.aload_n 0, 1) := by decide +kernel
theorem dX6_init_1145 : decode cX6_init 1145 = .ok (.bipush 10, 2) := by decide +kernel
theorem dX6_init_1147 : decode cX6_init 1147 = .ok (.newarray .int, 2) := by decide +kernel
theorem dX6_init_1149 : decode cX6_init 1149 = .ok (.putfield 92, 3) := by decide +kernel
theorem dX6_init_1152 : decode cX6_init 1152 = .ok (.aload_n 0, 1) := by decide +kernel
theorem dX6_init_1153 : decode cX6_init 1153 = .ok (.bipush 10, 2) := by decide +kernel
theorem dX6_init_1155 : decode cX6_init 1155 = .ok (.newarray .boolean, 2) := by decide +kernel
theorem dX6_init_1157 : decode cX6_init 1157 = .ok (.putfield 95, 3) := by decide +kernel
theorem dX6_init_1160 : decode cX6_init 1160 = .ok (.aload_n 0, 1) := by decide +kernel
theorem dX6_init_1161 : decode cX6_init 1161 = .ok (.bipush 10, 2) := by decide +kernel
theorem dX6_init_1163 : decode cX6_init 1163 = .ok (.newarray .int, 2) := by decide +kernel
theorem dX6_init_1165 : decode cX6_init 1165 = .ok (.putfield 99, 3) := by decide +kernel
theorem dX6_init_1168 : decode cX6_init 1168 = .ok (.aload_n 0, 1) := by decide +kernel
theorem dX6_init_1169 : decode cX6_init 1169 = .ok (.bipush 61, 2) := by decide +kernel
theorem dX6_init_1171 : decode cX6_init 1171 = .ok (.newarray .long, 2) := by decide +kernel
theorem dX6_init_1173 : decode cX6_init 1173 = .ok (.putfield 102, 3) := by decide +kernel
theorem dX6_init_1176 : decode cX6_init 1176 = .ok (.aload_n 0, 1) := by decide +kernel
theorem dX6_init_1177 : decode cX6_init 1177 = .ok (.bipush 61, 2) := by decide +kernel
theorem dX6_init_1179 : decode cX6_init 1179 = .ok (.newarray .long, 2) := by decide +kernel
theorem dX6_init_1181 : decode cX6_init 1181 = .ok (.putfield 106, 3) := by decide +kernel
theorem dX6_init_1184 : decode cX6_init 1184 = .ok (.aload_n 0, 1) := by decide +kernel
theorem dX6_init_1185 : decode cX6_init 1185 = .ok (.bipush 61, 2) := by decide +kernel
theorem dX6_init_1187 : decode cX6_init 1187 = .ok (.newarray .int, 2) := by decide +kernel
theorem dX6_init_1189 : decode cX6_init 1189 = .ok (.putfield 109, 3) := by decide +kernel
theorem dX6_init_1192 : decode cX6_init 1192 = .ok (.aload_n 0, 1) := by decide +kernel
theorem dX6_init_1193 : decode cX6_init 1193 = .ok (.sipush 160, 3) := by decide +kernel
theorem dX6_init_1196 : decode cX6_init 1196 = .ok (.newarray .int, 2) := by decide +kernel
theorem dX6_init_1198 : decode cX6_init 1198 = .ok (.putfield 112, 3) := by decide +kernel
theorem dX6_init_1201 : decode cX6_init 1201 = .ok (.aload_n 0, 1) := by decide +kernel
theorem dX6_init_1202 : decode cX6_init 1202 = .ok (.sipush 160, 3) := by decide +kernel
theorem dX6_init_1205 : decode cX6_init 1205 = .ok (.newarray .int, 2) := by decide +kernel
theorem dX6_init_1207 : decode cX6_init 1207 = .ok (.putfield 115, 3) := by decide +kernel
theorem dX6_init_1210 : decode cX6_init 1210 = .ok (.aload_n 0, 1) := by decide +kernel
theorem dX6_init_1211 : decode cX6_init 1211 = .ok (.sipush 3400, 3) := by decide +kernel
theorem dX6_init_1214 : decode cX6_init 1214 = .ok (.newarray .int, 2) := by decide +kernel
theorem dX6_init_1216 : decode cX6_init 1216 = .ok (.putfield 118, 3) := by decide +kernel
theorem dX6_init_1219 : decode cX6_init 1219 = .ok (.return_, 1) := by decide +kernel
theorem dX6_isIn_0 : decode cX6_isIn 0 = .ok (.iload_n 1, 1) := by decide +kernel
theorem dX6_isIn_1 : decode cX6_isIn 1 = .ok (.iload_n 2, 1) := by decide +kernel
theorem dX6_isIn_2 : decode cX6_isIn 2 = .ok (.if_icmp .lt 12, 3) := by decide +kernel
theorem dX6_isIn_5 : decode cX6_isIn 5 = .ok (.iload_n 1, 1) := by decide +kernel
theorem dX6_isIn_6 : decode cX6_isIn 6 = .ok (.iload_n 3, 1) := by decide +kernel
theorem dX6_isIn_7 : decode cX6_isIn 7 = .ok (.if_icmp .gt 7, 3) := by decide +kernel
theorem dX6_isIn_10 : decode cX6_isIn 10 = .ok (.iconst 1, 1) := by decide +kernel
theorem dX6_isIn_11 : decode cX6_isIn 11 = .ok (.goto 4, 3) := by decide +kernel
theorem dX6_isIn_14 : decode cX6_isIn 14 = .ok (.iconst 0, 1) := by decide +kernel
theorem dX6_isIn_15 : decode cX6_isIn 15 = .ok (.ireturn, 1) := by decide +kernel
theorem dX6_less_0 : decode cX6_less 0 = .ok (.iload_n 1, 1) := by decide +kernel
theorem dX6_less_1 : decode cX6_less 1 = .ok (.iload_n 2, 1) := by decide +kernel
theorem dX6_less_2 : decode cX6_less 2 = .ok (.if_icmp .ge 7, 3) := by decide +kernel
theorem dX6_less_5 : decode cX6_less 5 = .ok (.iload_n 1, 1) := by decide +kernel
theorem dX6_less_6 : decode cX6_less 6 = .ok (.goto 4, 3) := by decide +kernel
theorem dX6_less_9 : decode cX6_less 9 = .ok (.iload_n 2, 1) := by decide +kernel
theorem dX6_less_10 : decode cX6_less 10 = .ok (.ireturn, 1) := by decide +kernel
theorem dX6_size_0 : decode cX6_size 0 = .ok (.iload_n 1, 1) := by decide +kernel
theorem dX6_size_1 : decode cX6_size 1 = .ok (.ifCond .ge 8, 3) := by decide +kernel
theorem dX6_size_4 : decode cX6_size 4 = .ok (.iload_n 1, 1) := by decide +kernel
theorem dX6_size_5 : decode cX6_size 5 = .ok (.ineg, 1) := by decide +kernel
theorem dX6_size_6 : decode cX6_size 6 = .ok (.goto 4, 3) := by decide +kernel
theorem dX6_size_9 : decode cX6_size 9 = .ok (.iload_n 1, 1) := by decide +kernel
theorem dX6_size_10 : decode cX6_size 10 = .ok (.ireturn, 1) := by decide +kernel
theorem dX6_ones_0 : decode cX6_ones 0 = .ok (.iconst 0, 1) := by decide +kernel
theorem dX6_ones_1 : decode cX6_ones 1 = .ok (.istore_n 2, 1) := by decide +kernel
theorem dX6_ones_2 : decode cX6_ones 2 = .ok (.iload_n 1, 1) := by decide +kernel
theorem dX6_ones_3 : decode cX6_ones 3 = .ok (.istore_n 3, 1) := by decide +kernel
theorem dX6_ones_4 : decode cX6_ones 4 = .ok (.iload_n 3, 1) := by decide +kernel
theorem dX6_ones_5 : decode cX6_ones 5 = .ok (.ifCond .eq 16, 3) := by decide +kernel
theorem dX6_ones_8 : decode cX6_ones 8 = .ok (.iload_n 2, 1) := by decide +kernel
theorem dX6_ones_9 : decode cX6_ones 9 = .ok (.iconst 1, 1) := by decide +kernel
theorem dX6_ones_10 : decode cX6_ones 10 = .ok (.iadd, 1) := by decide +kernel
theorem dX6_ones_11 : decode cX6_ones 11 = .ok (.istore_n 2, 1) := by decide +kernel
theorem dX6_ones_12 : decode cX6_ones 12 = .ok (.iload_n 3, 1) := by decide +kernel
theorem dX6_ones_13 : decode cX6_ones 13 = .ok (.iload_n 3, 1) := by decide +kernel
theorem dX6_ones_14 : decode cX6_ones 14 = .ok (.iconst 1, 1) := by decide +kernel
theorem dX6_ones_15 : decode cX6_ones 15 = .ok (.isub, 1) := by decide +kernel
theorem dX6_ones_16 : decode cX6_ones 16 = .ok (.iand, 1) := by decide +kernel
theorem dX6_ones_17 : decode cX6_ones 17 = .ok (.istore_n 3, 1) := by decide +kernel
theorem dX6_ones_18 : decode cX6_ones 18 = .ok (.goto (-14), 3) := by decide +kernel
theorem dX6_ones_21 : decode cX6_ones 21 = .ok (.iload_n 2, 1) := by decide +kernel
theorem dX6_ones_22 : decode cX6_ones 22 = .ok (.ireturn, 1) := by decide +kernel
theorem dX6_state_0 : decode cX6_state 0 = .ok (.aload_n 0, 1) := by decide +kernel
theorem dX6_state_1 : decode cX6_state 1 = .ok (.iconst 0, 1) := by decide +kernel
theorem dX6_state_2 : decode cX6_state 2 = .ok (.putfield 121, 3) := by decide +kernel
theorem dX6_state_5 : decode cX6_state 5 = .ok (.aload_n 0, 1) := by decide +kernel
theorem dX6_state_6 : decode cX6_state 6 = .ok (.getfield 124, 3) := by decide +kernel
theorem dX6_state_9 : decode cX6_state 9 = .ok (.istore_n 2, 1) := by decide +kernel
theorem dX6_state_10 : decode cX6_state 10 = .ok (.aload_n 0, 1) := by decide +kernel
theorem dX6_state_11 : decode cX6_state 11 = .ok (.iload_n 1, 1) := by decide +kernel
theorem dX6_state_12 : decode cX6_state 12 = .ok (.putfield 124, 3) := by decide +kernel
theorem dX6_state_15 : decode cX6_state 15 = .ok (.iload_n 2, 1) := by decide +kernel
theorem dX6_state_16 : decode cX6_state 16 = .ok (.ireturn, 1) := by decide +kernel
theorem dX6_draw_0 : decode cX6_draw 0 = .ok (.aload_n 0, 1) := by decide +kernel
theorem dX6_draw_1 : decode cX6_draw 1 = .ok (.ldc 127, 2) := by decide +kernel
theorem dX6_draw_3 : decode cX6_draw 3 = .ok (.aload_n 0, 1) := by decide +kernel
theorem dX6_draw_4 : decode cX6_draw 4 = .ok (.getfield 124, 3) := by decide +kernel
theorem dX6_draw_7 : decode cX6_draw 7 = .ok (.imul, 1) := by decide +kernel
theorem dX6_draw_8 : decode cX6_draw 8 = .ok (.ldc 128, 2) := by decide +kernel
theorem dX6_draw_10 : decode cX6_draw 10 = .ok (.iadd, 1) := by decide +kernel
theorem dX6_draw_11 : decode cX6_draw 11 = .ok (.putfield 124, 3) := by decide +kernel
theorem dX6_draw_14 : decode cX6_draw 14 = .ok (.aload_n 0, 1) := by decide +kernel
theorem dX6_draw_15 : decode cX6_draw 15 = .ok (.getfield 124, 3) := by decide +kernel
theorem dX6_draw_18 : decode cX6_draw 18 = .ok (.bipush 8, 2) := by decide +kernel
theorem dX6_draw_20 : decode cX6_draw 20 = .ok (.iushr, 1) := by decide +kernel
theorem dX6_draw_21 : decode cX6_draw 21 = .ok (.iload_n 1, 1) := by decide +kernel
theorem dX6_draw_22 : decode cX6_draw 22 = .ok (.irem, 1) := by decide +kernel
theorem dX6_draw_23 : decode cX6_draw 23 = .ok (.ireturn, 1) := by decide +kernel
theorem dX6_isFarm_0 : decode cX6_isFarm 0 = .ok (.iload_n 1, 1) := by decide +kernel
theorem dX6_isFarm_1 : decode cX6_isFarm 1 = .ok (.ifCond .lt 15, 3) := by decide +kernel
theorem dX6_isFarm_4 : decode cX6_isFarm 4 = .ok (.iload_n 1, 1) := by decide +kernel
theorem dX6_isFarm_5 : decode cX6_isFarm 5 = .ok (.aload_n 0, 1) := by decide +kernel
theorem dX6_isFarm_6 : decode cX6_isFarm 6 = .ok (.getfield 7, 3) := by decide +kernel
theorem dX6_isFarm_9 : decode cX6_isFarm 9 = .ok (.if_icmp .ge 7, 3) := by decide +kernel
theorem dX6_isFarm_12 : decode cX6_isFarm 12 = .ok (.iconst 1, 1) := by decide +kernel
theorem dX6_isFarm_13 : decode cX6_isFarm 13 = .ok (.goto 4, 3) := by decide +kernel
theorem dX6_isFarm_16 : decode cX6_isFarm 16 = .ok (.iconst 0, 1) := by decide +kernel
theorem dX6_isFarm_17 : decode cX6_isFarm 17 = .ok (.ireturn, 1) := by decide +kernel
set_option maxRecDepth 20000 in
theorem ggX6_ring_X6_isIn : GoodIn wsX6_ring wsX6_isIn := goodIn_r _ [20] (by decide +kernel) (by decide +kernel)
set_option maxRecDepth 20000 in
theorem gX6_ring_X6_isIn : GoodIn wsX6_ring (wsV RX6 129 RX6 yX6_isIn wsX6_isIn) := goodIn_app (goodIn_of _ (by decide +kernel)) ggX6_ring_X6_isIn
theorem dX6_ring_0 : decode cX6_ring 0 = .ok (.aload_n 0, 1) := by decide +kernel
theorem dX6_ring_1 : decode cX6_ring 1 = .ok (.iconst 0, 1) := by decide +kernel
theorem dX6_ring_2 : decode cX6_ring 2 = .ok (.putfield 121, 3) := by decide +kernel
theorem dX6_ring_5 : decode cX6_ring 5 = .ok (.aload_n 0, 1) := by decide +kernel
theorem dX6_ring_6 : decode cX6_ring 6 = .ok (.iload_n 1, 1) := by decide +kernel
theorem dX6_ring_7 : decode cX6_ring 7 = .ok (.iconst 2, 1) := by decide +kernel
theorem dX6_ring_8 : decode cX6_ring 8 = .ok (.bipush 10, 2) := by decide +kernel
theorem dX6_ring_10 : decode cX6_ring 10 = .ok (.invokevirtual 129, 3) := by decide +kernel
theorem dX6_ring_13 : decode cX6_ring 13 = .ok (.ifCond .ne 5, 3) := by decide +kernel
theorem dX6_ring_16 : decode cX6_ring 16 = .ok (.iconst 0, 1) := by decide +kernel
theorem dX6_ring_17 : decode cX6_ring 17 = .ok (.ireturn, 1) := by decide +kernel
theorem dX6_ring_18 : decode cX6_ring 18 = .ok (.aload_n 0, 1) := by decide +kernel
theorem dX6_ring_19 : decode cX6_ring 19 = .ok (.iload_n 1, 1) := by decide +kernel
theorem dX6_ring_20 : decode cX6_ring 20 = .ok (.putfield 7, 3) := by decide +kernel
theorem dX6_ring_23 : decode cX6_ring 23 = .ok (.iconst 0, 1) := by decide +kernel
theorem dX6_ring_24 : decode cX6_ring 24 = .ok (.istore_n 2, 1) := by decide +kernel
theorem dX6_ring_25 : decode cX6_ring 25 = .ok (.iload_n 2, 1) := by decide +kernel
theorem dX6_ring_26 : decode cX6_ring 26 = .ok (.bipush 10, 2) := by decide +kernel
theorem dX6_ring_28 : decode cX6_ring 28 = .ok (.if_icmp .ge 102, 3) := by decide +kernel
theorem dX6_ring_31 : decode cX6_ring 31 = .ok (.aload_n 0, 1) := by decide +kernel
theorem dX6_ring_32 : decode cX6_ring 32 = .ok (.getfield 13, 3) := by decide +kernel
theorem dX6_ring_35 : decode cX6_ring 35 = .ok (.iload_n 2, 1) := by decide +kernel
theorem dX6_ring_36 : decode cX6_ring 36 = .ok (.bipush 10, 2) := by decide +kernel
theorem dX6_ring_38 : decode cX6_ring 38 = .ok (.iastore, 1) := by decide +kernel
theorem dX6_ring_39 : decode cX6_ring 39 = .ok (.aload_n 0, 1) := by decide +kernel
theorem dX6_ring_40 : decode cX6_ring 40 = .ok (.getfield 17, 3) := by decide +kernel
theorem dX6_ring_43 : decode cX6_ring 43 = .ok (.iload_n 2, 1) := by decide +kernel
theorem dX6_ring_44 : decode cX6_ring 44 = .ok (.iconst 0, 1) := by decide +kernel
theorem dX6_ring_45 : decode cX6_ring 45 = .ok (.iastore, 1) := by decide +kernel
theorem dX6_ring_46 : decode cX6_ring 46 = .ok (.aload_n 0, 1) := by decide +kernel
theorem dX6_ring_47 : decode cX6_ring 47 = .ok (.getfield 20, 3) := by decide +kernel
theorem dX6_ring_50 : decode cX6_ring 50 = .ok (.iload_n 2, 1) := by decide +kernel
theorem dX6_ring_51 : decode cX6_ring 51 = .ok (.iload_n 2, 1) := by decide +kernel
theorem dX6_ring_52 : decode cX6_ring 52 = .ok (.iastore, 1) := by decide +kernel
theorem dX6_ring_53 : decode cX6_ring 53 = .ok (.aload_n 0, 1) := by decide +kernel
theorem dX6_ring_54 : decode cX6_ring 54 = .ok (.getfield 23, 3) := by decide +kernel
theorem dX6_ring_57 : decode cX6_ring 57 = .ok (.iload_n 2, 1) := by decide +kernel
theorem dX6_ring_58 : decode cX6_ring 58 = .ok (.iconst 0, 1) := by decide +kernel
theorem dX6_ring_59 : decode cX6_ring 59 = .ok (.iastore, 1) := by decide +kernel
theorem dX6_ring_60 : decode cX6_ring 60 = .ok (.aload_n 0, 1) := by decide +kernel
theorem dX6_ring_61 : decode cX6_ring 61 = .ok (.getfield 26, 3) := by decide +kernel
theorem dX6_ring_64 : decode cX6_ring 64 = .ok (.iload_n 2, 1) := by decide +kernel
theorem dX6_ring_65 : decode cX6_ring 65 = .ok (.iconst 0, 1) := by decide +kernel
theorem dX6_ring_66 : decode cX6_ring 66 = .ok (.iastore, 1) := by decide +kernel
theorem dX6_ring_67 : decode cX6_ring 67 = .ok (.aload_n 0, 1) := by decide +kernel
theorem dX6_ring_68 : decode cX6_ring 68 = .ok (.getfield 29, 3) := by decide +kernel
theorem dX6_ring_71 : decode cX6_ring 71 = .ok (.iload_n 2, 1) := by decide +kernel
theorem dX6_ring_72 : decode cX6_ring 72 = .ok (.bipush 99, 2) := by decide +kernel
theorem dX6_ring_74 : decode cX6_ring 74 = .ok (.iastore, 1) := by decide +kernel
theorem dX6_ring_75 : decode cX6_ring 75 = .ok (.aload_n 0, 1) := by decide +kernel
theorem dX6_ring_76 : decode cX6_ring 76 = .ok (.getfield 32, 3) := by decide +kernel
theorem dX6_ring_79 : decode cX6_ring 79 = .ok (.iload_n 2, 1) := by decide +kernel
theorem dX6_ring_80 : decode cX6_ring 80 = .ok (.iconst 0, 1) := by decide +kernel
theorem dX6_ring_81 : decode cX6_ring 81 = .ok (.iastore, 1) := by decide +kernel
theorem dX6_ring_82 : decode cX6_ring 82 = .ok (.aload_n 0, 1) := by decide +kernel
theorem dX6_ring_83 : decode cX6_ring 83 = .ok (.getfield 35, 3) := by decide +kernel
theorem dX6_ring_86 : decode cX6_ring 86 = .ok (.iload_n 2, 1) := by decide +kernel
theorem dX6_ring_87 : decode cX6_ring 87 = .ok (.iconst (-1), 1) := by decide +kernel
theorem dX6_ring_88 : decode cX6_ring 88 = .ok (.iastore, 1) := by decide +kernel
theorem dX6_ring_89 : decode cX6_ring 89 = .ok (.aload_n 0, 1) := by decide +kernel
theorem dX6_ring_90 : decode cX6_ring 90 = .ok (.getfield 38, 3) := by decide +kernel
theorem dX6_ring_93 : decode cX6_ring 93 = .ok (.iload_n 2, 1) := by decide +kernel
theorem dX6_ring_94 : decode cX6_ring 94 = .ok (.iconst 0, 1) := by decide +kernel
theorem dX6_ring_95 : decode cX6_ring 95 = .ok (.iastore, 1) := by decide +kernel
theorem dX6_ring_96 : decode cX6_ring 96 = .ok (.aload_n 0, 1) := by decide +kernel
theorem dX6_ring_97 : decode cX6_ring 97 = .ok (.getfield 41, 3) := by decide +kernel
theorem dX6_ring_100 : decode cX6_ring 100 = .ok (.iload_n 2, 1) := by decide +kernel
theorem dX6_ring_101 : decode cX6_ring 101 = .ok (.iconst 0, 1) := by decide +kernel
theorem dX6_ring_102 : decode cX6_ring 102 = .ok (.iastore, 1) := by decide +kernel
theorem dX6_ring_103 : decode cX6_ring 103 = .ok (.aload_n 0, 1) := by decide +kernel
theorem dX6_ring_104 : decode cX6_ring 104 = .ok (.getfield 44, 3) := by decide +kernel
theorem dX6_ring_107 : decode cX6_ring 107 = .ok (.iload_n 2, 1) := by decide +kernel
theorem dX6_ring_108 : decode cX6_ring 108 = .ok (.iconst 0, 1) := by decide +kernel
theorem dX6_ring_109 : decode cX6_ring 109 = .ok (.iastore, 1) := by decide +kernel
theorem dX6_ring_110 : decode cX6_ring 110 = .ok (.aload_n 0, 1) := by decide +kernel
theorem dX6_ring_111 : decode cX6_ring 111 = .ok (.getfield 47, 3) := by decide +kernel
theorem dX6_ring_114 : decode cX6_ring 114 = .ok (.iload_n 2, 1) := by decide +kernel
theorem dX6_ring_115 : decode cX6_ring 115 = .ok (.iconst (-1), 1) := by decide +kernel
theorem dX6_ring_116 : decode cX6_ring 116 = .ok (.iastore, 1) := by decide +kernel
theorem dX6_ring_117 : decode cX6_ring 117 = .ok (.aload_n 0, 1) := by decide +kernel
theorem dX6_ring_118 : decode cX6_ring 118 = .ok (.getfield 50, 3) := by decide +kernel
theorem dX6_ring_121 : decode cX6_ring 121 = .ok (.iload_n 2, 1) := by decide +kernel
theorem dX6_ring_122 : decode cX6_ring 122 = .ok (.iconst (-1), 1) := by decide +kernel
theorem dX6_ring_123 : decode cX6_ring 123 = .ok (.iastore, 1) := by decide +kernel
theorem dX6_ring_124 : decode cX6_ring 124 = .ok (.iinc 2 1, 3) := by decide +kernel
theorem dX6_ring_127 : decode cX6_ring 127 = .ok (.goto (-102), 3) := by decide +kernel
theorem dX6_ring_130 : decode cX6_ring 130 = .ok (.iconst 1, 1) := by decide +kernel
theorem dX6_ring_131 : decode cX6_ring 131 = .ok (.ireturn, 1) := by decide +kernel
set_option maxRecDepth 20000 in
theorem ggX6_farm_X6_isFarm : GoodIn wsX6_farm wsX6_isFarm := goodIn_r _ [10, 11, 16, 17, 18, 19, 20, 21, 22, 23, 24, 25, 26, 27, 28, 29, 30, 31, 32, 33, 34, 35, 36, 37, 38, 39, 40, 41, 42, 43, 44, 45, 46, 47, 48, 49, 50, 51, 52, 53, 54, 55, 56, 57, 58, 59, 60, 61, 62, 63, 64, 65, 66, 67, 68, 69, 70] (by decide +kernel) (by decide +kernel)
set_option maxRecDepth 20000 in
theorem gX6_farm_X6_isFarm : GoodIn wsX6_farm (wsV RX6 133 RX6 yX6_isFarm wsX6_isFarm) := goodIn_app (goodIn_of _ (by decide +kernel)) ggX6_farm_X6_isFarm
set_option maxRecDepth 20000 in
theorem ggX6_farm_X6_isIn : GoodIn wsX6_farm wsX6_isIn := goodIn_r _ [15] (by decide +kernel) (by decide +kernel)
set_option maxRecDepth 20000 in
theorem gX6_farm_X6_isIn : GoodIn wsX6_farm (wsV RX6 129 RX6 yX6_isIn wsX6_isIn) := goodIn_app (goodIn_of _ (by decide +kernel)) ggX6_farm_X6_isIn
theorem dX6_farm_0 : decode cX6_farm 0 = .ok (.aload_n 0, 1) := by decide +kernel
theorem dX6_farm_1 : decode cX6_farm 1 = .ok (.iconst 0, 1) := by decide +kernel
theorem dX6_farm_2 : decode cX6_farm 2 = .ok (.putfield 121, 3) := by decide +kernel
theorem dX6_farm_5 : decode cX6_farm 5 = .ok (.iload_n 2, 1) := by decide +kernel
theorem dX6_farm_6 : decode cX6_farm 6 = .ok (.ifCond .ne 8, 3) := by decide +kernel
theorem dX6_farm_9 : decode cX6_farm 9 = .ok (.bipush 60, 2) := by decide +kernel
theorem dX6_farm_11 : decode cX6_farm 11 = .ok (.goto 23, 3) := by decide +kernel
theorem dX6_farm_14 : decode cX6_farm 14 = .ok (.iload_n 2, 1) := by decide +kernel
theorem dX6_farm_15 : decode cX6_farm 15 = .ok (.iconst 1, 1) := by decide +kernel
theorem dX6_farm_16 : decode cX6_farm 16 = .ok (.if_icmp .ne 7, 3) := by decide +kernel
theorem dX6_farm_19 : decode cX6_farm 19 = .ok (.iconst 3, 1) := by decide +kernel
theorem dX6_farm_20 : decode cX6_farm 20 = .ok (.goto 14, 3) := by decide +kernel
theorem dX6_farm_23 : decode cX6_farm 23 = .ok (.iload_n 2, 1) := by decide +kernel
theorem dX6_farm_24 : decode cX6_farm 24 = .ok (.iconst 2, 1) := by decide +kernel
theorem dX6_farm_25 : decode cX6_farm 25 = .ok (.if_icmp .ne 8, 3) := by decide +kernel
theorem dX6_farm_28 : decode cX6_farm 28 = .ok (.bipush 9, 2) := by decide +kernel
theorem dX6_farm_30 : decode cX6_farm 30 = .ok (.goto 4, 3) := by decide +kernel
theorem dX6_farm_33 : decode cX6_farm 33 = .ok (.iconst 1, 1) := by decide +kernel
theorem dX6_farm_34 : decode cX6_farm 34 = .ok (.istore 4, 2) := by decide +kernel
theorem dX6_farm_36 : decode cX6_farm 36 = .ok (.aload_n 0, 1) := by decide +kernel
theorem dX6_farm_37 : decode cX6_farm 37 = .ok (.iload_n 1, 1) := by decide +kernel
theorem dX6_farm_38 : decode cX6_farm 38 = .ok (.invokevirtual 133, 3) := by decide +kernel
theorem dX6_farm_41 : decode cX6_farm 41 = .ok (.ifCond .eq 24, 3) := by decide +kernel
theorem dX6_farm_44 : decode cX6_farm 44 = .ok (.aload_n 0, 1) := by decide +kernel
theorem dX6_farm_45 : decode cX6_farm 45 = .ok (.iload_n 2, 1) := by decide +kernel
theorem dX6_farm_46 : decode cX6_farm 46 = .ok (.iconst 0, 1) := by decide +kernel
theorem dX6_farm_47 : decode cX6_farm 47 = .ok (.iconst 3, 1) := by decide +kernel
theorem dX6_farm_48 : decode cX6_farm 48 = .ok (.invokevirtual 129, 3) := by decide +kernel
theorem dX6_farm_51 : decode cX6_farm 51 = .ok (.ifCond .eq 14, 3) := by decide +kernel
theorem dX6_farm_54 : decode cX6_farm 54 = .ok (.aload_n 0, 1) := by decide +kernel
theorem dX6_farm_55 : decode cX6_farm 55 = .ok (.iload_n 3, 1) := by decide +kernel
theorem dX6_farm_56 : decode cX6_farm 56 = .ok (.iconst 0, 1) := by decide +kernel
theorem dX6_farm_57 : decode cX6_farm 57 = .ok (.iload 4, 2) := by decide +kernel
theorem dX6_farm_59 : decode cX6_farm 59 = .ok (.invokevirtual 129, 3) := by decide +kernel
theorem dX6_farm_62 : decode cX6_farm 62 = .ok (.ifCond .ne 5, 3) := by decide +kernel
theorem dX6_farm_65 : decode cX6_farm 65 = .ok (.iconst 0, 1) := by decide +kernel
theorem dX6_farm_66 : decode cX6_farm 66 = .ok (.ireturn, 1) := by decide +kernel
theorem dX6_farm_67 : decode cX6_farm 67 = .ok (.iload_n 2, 1) := by decide +kernel
theorem dX6_farm_68 : decode cX6_farm 68 = .ok (.ifCond .ne 10, 3) := by decide +kernel
theorem dX6_farm_71 : decode cX6_farm 71 = .ok (.aload_n 0, 1) := by decide +kernel
theorem dX6_farm_72 : decode cX6_farm 72 = .ok (.getfield 13, 3) := by decide +kernel
theorem dX6_farm_75 : decode cX6_farm 75 = .ok (.iload_n 1, 1) := by decide +kernel
theorem dX6_farm_76 : decode cX6_farm 76 = .ok (.iload_n 3, 1) := by decide +kernel
theorem dX6_farm_77 : decode cX6_farm 77 = .ok (.iastore, 1) := by decide +kernel
theorem dX6_farm_78 : decode cX6_farm 78 = .ok (.iload_n 2, 1) := by decide +kernel
theorem dX6_farm_79 : decode cX6_farm 79 = .ok (.iconst 1, 1) := by decide +kernel
theorem dX6_farm_80 : decode cX6_farm 80 = .ok (.if_icmp .ne 10, 3) := by decide +kernel
theorem dX6_farm_83 : decode cX6_farm 83 = .ok (.aload_n 0, 1) := by decide +kernel
theorem dX6_farm_84 : decode cX6_farm 84 = .ok (.getfield 17, 3) := by decide +kernel
theorem dX6_farm_87 : decode cX6_farm 87 = .ok (.iload_n 1, 1) := by decide +kernel
theorem dX6_farm_88 : decode cX6_farm 88 = .ok (.iload_n 3, 1) := by decide +kernel
theorem dX6_farm_89 : decode cX6_farm 89 = .ok (.iastore, 1) := by decide +kernel
theorem dX6_farm_90 : decode cX6_farm 90 = .ok (.iload_n 2, 1) := by decide +kernel
theorem dX6_farm_91 : decode cX6_farm 91 = .ok (.iconst 2, 1) := by decide +kernel
theorem dX6_farm_92 : decode cX6_farm 92 = .ok (.if_icmp .ne 10, 3) := by decide +kernel
theorem dX6_farm_95 : decode cX6_farm 95 = .ok (.aload_n 0, 1) := by decide +kernel
theorem dX6_farm_96 : decode cX6_farm 96 = .ok (.getfield 20, 3) := by decide +kernel
theorem dX6_farm_99 : decode cX6_farm 99 = .ok (.iload_n 1, 1) := by decide +kernel
theorem dX6_farm_100 : decode cX6_farm 100 = .ok (.iload_n 3, 1) := by decide +kernel
theorem dX6_farm_101 : decode cX6_farm 101 = .ok (.iastore, 1) := by decide +kernel
theorem dX6_farm_102 : decode cX6_farm 102 = .ok (.iload_n 2, 1) := by decide +kernel
theorem dX6_farm_103 : decode cX6_farm 103 = .ok (.iconst 3, 1) := by decide +kernel
theorem dX6_farm_104 : decode cX6_farm 104 = .ok (.if_icmp .ne 10, 3) := by decide +kernel
theorem dX6_farm_107 : decode cX6_farm 107 = .ok (.aload_n 0, 1) := by decide +kernel
theorem dX6_farm_108 : decode cX6_farm 108 = .ok (.getfield 23, 3) := by decide +kernel
theorem dX6_farm_111 : decode cX6_farm 111 = .ok (.iload_n 1, 1) := by decide +kernel
theorem dX6_farm_112 : decode cX6_farm 112 = .ok (.iload_n 3, 1) := by decide +kernel
theorem dX6_farm_113 : decode cX6_farm 113 = .ok (.iastore, 1) := by decide +kernel
theorem dX6_farm_114 : decode cX6_farm 114 = .ok (.iconst 1, 1) := by decide +kernel
theorem dX6_farm_115 : decode cX6_farm 115 = .ok (.ireturn, 1) := by decide +kernel
set_option maxRecDepth 20000 in
theorem ggX6_border_X6_isFarm : GoodIn wsX6_border wsX6_isFarm := goodIn_r _ [9, 10, 15, 16, 17, 18, 19, 20, 21, 22, 23, 24, 25, 26, 27, 28, 29, 30, 31, 32, 33, 34, 35, 36, 37, 38, 39, 40, 41, 42, 43, 44, 45, 46, 47, 48, 49, 50, 51, 52, 53, 54, 55, 56, 57, 58, 59, 60, 61, 62, 63, 64, 65, 66, 67, 68, 69] (by decide +kernel) (by decide +kernel)
set_option maxRecDepth 20000 in
theorem gX6_border_X6_isFarm : GoodIn wsX6_border (wsV RX6 133 RX6 yX6_isFarm wsX6_isFarm) := goodIn_app (goodIn_of _ (by decide +kernel)) ggX6_border_X6_isFarm
set_option maxRecDepth 20000 in
theorem ggX6_border_X6_isIn : GoodIn wsX6_border wsX6_isIn := goodIn_r _ [14] (by decide +kernel) (by decide +kernel)
set_option maxRecDepth 20000 in
theorem gX6_border_X6_isIn : GoodIn wsX6_border (wsV RX6 129 RX6 yX6_isIn wsX6_isIn) := goodIn_app (goodIn_of _ (by decide +kernel)) ggX6_border_X6_isIn
theorem dX6_border_0 : decode cX6_border 0 = .ok (.aload_n 0, 1) := by decide +kernel
theorem dX6_border_1 : decode cX6_border 1 = .ok (.iconst 0, 1) := by decide +kernel
theorem dX6_border_2 : decode cX6_border 2 = .ok (.putfield 121, 3) := by decide +kernel
theorem dX6_border_5 : decode cX6_border 5 = .ok (.aload_n 0, 1) := by decide +kernel
theorem dX6_border_6 : decode cX6_border 6 = .ok (.iload_n 1, 1) := by decide +kernel
theorem dX6_border_7 : decode cX6_border 7 = .ok (.invokevirtual 133, 3) := by decide +kernel
theorem dX6_border_10 : decode cX6_border 10 = .ok (.ifCond .eq 31, 3) := by decide +kernel
theorem dX6_border_13 : decode cX6_border 13 = .ok (.aload_n 0, 1) := by decide +kernel
theorem dX6_border_14 : decode cX6_border 14 = .ok (.iload_n 2, 1) := by decide +kernel
theorem dX6_border_15 : decode cX6_border 15 = .ok (.iconst 0, 1) := by decide +kernel
theorem dX6_border_16 : decode cX6_border 16 = .ok (.iconst 1, 1) := by decide +kernel
theorem dX6_border_17 : decode cX6_border 17 = .ok (.invokevirtual 129, 3) := by decide +kernel
theorem dX6_border_20 : decode cX6_border 20 = .ok (.ifCond .eq 21, 3) := by decide +kernel
theorem dX6_border_23 : decode cX6_border 23 = .ok (.aload_n 0, 1) := by decide +kernel
theorem dX6_border_24 : decode cX6_border 24 = .ok (.iload_n 3, 1) := by decide +kernel
theorem dX6_border_25 : decode cX6_border 25 = .ok (.iconst 0, 1) := by decide +kernel
theorem dX6_border_26 : decode cX6_border 26 = .ok (.iload_n 2, 1) := by decide +kernel
theorem dX6_border_27 : decode cX6_border 27 = .ok (.ifCond .ne 7, 3) := by decide +kernel
theorem dX6_border_30 : decode cX6_border 30 = .ok (.iconst 1, 1) := by decide +kernel
theorem dX6_border_31 : decode cX6_border 31 = .ok (.goto 4, 3) := by decide +kernel
theorem dX6_border_34 : decode cX6_border 34 = .ok (.iconst 3, 1) := by decide +kernel
theorem dX6_border_35 : decode cX6_border 35 = .ok (.invokevirtual 129, 3) := by decide +kernel
theorem dX6_border_38 : decode cX6_border 38 = .ok (.ifCond .ne 5, 3) := by decide +kernel
theorem dX6_border_41 : decode cX6_border 41 = .ok (.iconst 0, 1) := by decide +kernel
theorem dX6_border_42 : decode cX6_border 42 = .ok (.ireturn, 1) := by decide +kernel
theorem dX6_border_43 : decode cX6_border 43 = .ok (.iload_n 2, 1) := by decide +kernel
theorem dX6_border_44 : decode cX6_border 44 = .ok (.ifCond .ne 13, 3) := by decide +kernel
theorem dX6_border_47 : decode cX6_border 47 = .ok (.aload_n 0, 1) := by decide +kernel
theorem dX6_border_48 : decode cX6_border 48 = .ok (.getfield 38, 3) := by decide +kernel
theorem dX6_border_51 : decode cX6_border 51 = .ok (.iload_n 1, 1) := by decide +kernel
theorem dX6_border_52 : decode cX6_border 52 = .ok (.iload_n 3, 1) := by decide +kernel
theorem dX6_border_53 : decode cX6_border 53 = .ok (.iastore, 1) := by decide +kernel
theorem dX6_border_54 : decode cX6_border 54 = .ok (.goto 10, 3) := by decide +kernel
theorem dX6_border_57 : decode cX6_border 57 = .ok (.aload_n 0, 1) := by decide +kernel
theorem dX6_border_58 : decode cX6_border 58 = .ok (.getfield 41, 3) := by decide +kernel
theorem dX6_border_61 : decode cX6_border 61 = .ok (.iload_n 1, 1) := by decide +kernel
theorem dX6_border_62 : decode cX6_border 62 = .ok (.iload_n 3, 1) := by decide +kernel
theorem dX6_border_63 : decode cX6_border 63 = .ok (.iastore, 1) := by decide +kernel
theorem dX6_border_64 : decode cX6_border 64 = .ok (.aload_n 0, 1) := by decide +kernel
theorem dX6_border_65 : decode cX6_border 65 = .ok (.getfield 44, 3) := by decide +kernel
theorem dX6_border_68 : decode cX6_border 68 = .ok (.iload_n 1, 1) := by decide +kernel
theorem dX6_border_69 : decode cX6_border 69 = .ok (.iconst 0, 1) := by decide +kernel
theorem dX6_border_70 : decode cX6_border 70 = .ok (.iastore, 1) := by decide +kernel
theorem dX6_border_71 : decode cX6_border 71 = .ok (.iconst 1, 1) := by decide +kernel
theorem dX6_border_72 : decode cX6_border 72 = .ok (.ireturn, 1) := by decide +kernel
set_option maxRecDepth 20000 in
theorem ggX6_set_X6_isIn : GoodIn wsX6_set wsX6_isIn := goodIn_r _ [7] (by decide +kernel) (by decide +kernel)
set_option maxRecDepth 20000 in
theorem gX6_set_X6_isIn : GoodIn wsX6_set (wsV RX6 129 RX6 yX6_isIn wsX6_isIn) := goodIn_app (goodIn_of _ (by decide +kernel)) ggX6_set_X6_isIn
theorem dX6_set_0 : decode cX6_set 0 = .ok (.aload_n 0, 1) := by decide +kernel
theorem dX6_set_1 : decode cX6_set 1 = .ok (.iconst 0, 1) := by decide +kernel
theorem dX6_set_2 : decode cX6_set 2 = .ok (.putfield 121, 3) := by decide +kernel
theorem dX6_set_5 : decode cX6_set 5 = .ok (.iload_n 1, 1) := by decide +kernel
theorem dX6_set_6 : decode cX6_set 6 = .ok (.bipush 9, 2) := by decide +kernel
theorem dX6_set_8 : decode cX6_set 8 = .ok (.if_icmp .ne 7, 3) := by decide +kernel
theorem dX6_set_11 : decode cX6_set 11 = .ok (.iconst 5, 1) := by decide +kernel
theorem dX6_set_12 : decode cX6_set 12 = .ok (.goto 17, 3) := by decide +kernel
theorem dX6_set_15 : decode cX6_set 15 = .ok (.iload_n 1, 1) := by decide +kernel
theorem dX6_set_16 : decode cX6_set 16 = .ok (.bipush 7, 2) := by decide +kernel
theorem dX6_set_18 : decode cX6_set 18 = .ok (.if_icmp .lt 9, 3) := by decide +kernel
theorem dX6_set_21 : decode cX6_set 21 = .ok (.sipush 1000, 3) := by decide +kernel
theorem dX6_set_24 : decode cX6_set 24 = .ok (.goto 5, 3) := by decide +kernel
theorem dX6_set_27 : decode cX6_set 27 = .ok (.bipush 99, 2) := by decide +kernel
theorem dX6_set_29 : decode cX6_set 29 = .ok (.istore_n 3, 1) := by decide +kernel
theorem dX6_set_30 : decode cX6_set 30 = .ok (.aload_n 0, 1) := by decide +kernel
theorem dX6_set_31 : decode cX6_set 31 = .ok (.iload_n 1, 1) := by decide +kernel
theorem dX6_set_32 : decode cX6_set 32 = .ok (.iconst 0, 1) := by decide +kernel
theorem dX6_set_33 : decode cX6_set 33 = .ok (.bipush 9, 2) := by decide +kernel
theorem dX6_set_35 : decode cX6_set 35 = .ok (.invokevirtual 129, 3) := by decide +kernel
theorem dX6_set_38 : decode cX6_set 38 = .ok (.ifCond .eq 13, 3) := by decide +kernel
theorem dX6_set_41 : decode cX6_set 41 = .ok (.aload_n 0, 1) := by decide +kernel
theorem dX6_set_42 : decode cX6_set 42 = .ok (.iload_n 2, 1) := by decide +kernel
