theorem dX6_init_0 : decode cX6_init 0 = .ok (.aload_n 0, 1) := by decide +kernel
theorem dX6_init_1 : decode cX6_init 1 = .ok (.invokespecial 1, 3) := by decide +kernel
theorem dX6_init_4 : decode cX6_init 4 = .ok (.aload_n 0, 1) := by decide +kernel
theorem dX6_init_5 : decode cX6_init 5 = .ok (.iconst 4, 1) := by decide +kernel
theorem dX6_init_6 : decode cX6_init 6 = .ok (.putfield 7, 3) := by decide +kernel
theorem dX6_init_9 : decode cX6_init 9 = .ok (.aload_n 0, 1) := by decide +kernel
theorem dX6_init_10 : decode cX6_init 10 = .ok (.bipush 10, 2) := by decide +kernel
theorem dX6_init_12 : decode cX6_init 12 = .ok (.newarray .int, 2) := by decide +kernel
theorem dX6_init_14 : decode cX6_init 14 = .ok (.dup, 1) := by decide +kernel
theorem dX6_init_15 : decode cX6_init 15 = .ok (.iconst 0, 1) := by decide +kernel
theorem dX6_init_16 : decode cX6_init 16 = .ok (.bipush 10, 2) := by decide +kernel
theorem dX6_init_18 : decode cX6_init 18 = .ok (.iastore, 1) := by decide +kernel
theorem dX6_init_19 : decode cX6_init 19 = .ok (.dup, 1) := by decide +kernel
theorem dX6_init_20 : decode cX6_init 20 = .ok (.iconst 1, 1) := by decide +kernel
theorem dX6_init_21 : decode cX6_init 21 = .ok (.bipush 10, 2) := by decide +kernel
theorem dX6_init_23 : decode cX6_init 23 = .ok (.iastore, 1) := by decide +kernel
theorem dX6_init_24 : decode cX6_init 24 = .ok (.dup, 1) := by decide +kernel
theorem dX6_init_25 : decode cX6_init 25 = .ok (.iconst 2, 1) := by decide +kernel
theorem dX6_init_26 : decode cX6_init 26 = .ok (.bipush 10, 2) := by decide +kernel
theorem dX6_init_28 : decode cX6_init 28 = .ok (.iastore, 1) := by decide +kernel
theorem dX6_init_29 : decode cX6_init 29 = .ok (.dup, 1) := by decide +kernel
theorem dX6_init_30 : decode cX6_init 30 = .ok (.iconst 3, 1) := by decide +kernel
theorem dX6_init_31 : decode cX6_init 31 = .ok (.bipush 10, 2) := by decide +kernel
theorem dX6_init_33 : decode cX6_init 33 = .ok (.iastore, 1) := by decide +kernel
theorem dX6_init_34 : decode cX6_init 34 = .ok (.dup, 1) := by decide +kernel
theorem dX6_init_35 : decode cX6_init 35 = .ok (.iconst 4, 1) := by decide +kernel
theorem dX6_init_36 : decode cX6_init 36 = .ok (.bipush 10, 2) := by decide +kernel
theorem dX6_init_38 : decode cX6_init 38 = .ok (.iastore, 1) := by decide +kernel
theorem dX6_init_39 : decode cX6_init 39 = .ok (.dup, 1) := by decide +kernel
theorem dX6_init_40 : decode cX6_init 40 = .ok (.iconst 5, 1) := by decide +kernel
theorem dX6_init_41 : decode cX6_init 41 = .ok (.bipush 10, 2) := by decide +kernel
theorem dX6_init_43 : decode cX6_init 43 = .ok (.iastore, 1) := by decide +kernel
theorem dX6_init_44 : decode cX6_init 44 = .ok (.dup, 1) := by decide +kernel
theorem dX6_init_45 : decode cX6_init 45 = .ok (.bipush 6, 2) := by decide +kernel
theorem dX6_init_47 : decode cX6_init 47 = .ok (.bipush 10, 2) := by decide +kernel
theorem dX6_init_49 : decode cX6_init 49 = .ok (.iastore, 1) := by decide +kernel
theorem dX6_init_50 : decode cX6_init 50 = .ok (.dup, 1) := by decide +kernel
theorem dX6_init_51 : decode cX6_init 51 = .ok (.bipush 7, 2) := by decide +kernel
theorem dX6_init_53 : decode cX6_init 53 = .ok (.bipush 10, 2) := by decide +kernel
theorem dX6_init_55 : decode cX6_init 55 = .ok (.iastore, 1) := by decide +kernel
theorem dX6_init_56 : decode cX6_init 56 = .ok (.dup, 1) := by decide +kernel
theorem dX6_init_57 : decode cX6_init 57 = .ok (.bipush 8, 2) := by decide +kernel
theorem dX6_init_59 : decode cX6_init 59 = .ok (.bipush 10, 2) := by decide +kernel
theorem dX6_init_61 : decode cX6_init 61 = .ok (.iastore, 1) := by decide +kernel
theorem dX6_init_62 : decode cX6_init 62 = .ok (.dup, 1) := by decide +kernel
theorem dX6_init_63 : decode cX6_init 63 = .ok (.bipush 9, 2) := by decide +kernel
theorem dX6_init_65 : decode cX6_init 65 = .ok (.bipush 10, 2) := by decide +kernel
theorem dX6_init_67 : decode cX6_init 67 = .ok (.iastore, 1) := by decide +kernel
theorem dX6_init_68 : decode cX6_init 68 = .ok (.putfield 13, 3) := by decide +kernel
theorem dX6_init_71 : decode cX6_init 71 = .ok (.aload_n 0, 1) := by decide +kernel
theorem dX6_init_72 : decode cX6_init 72 = .ok (.bipush 10, 2) := by decide +kernel
theorem dX6_init_74 : decode cX6_init 74 = .ok (.newarray .int, 2) := by decide +kernel
theorem dX6_init_76 : decode cX6_init 76 = .ok (.putfield 17, 3) := by decide +kernel
theorem dX6_init_79 : decode cX6_init 79 = .ok (.aload_n 0, 1) := by decide +kernel
theorem dX6_init_80 : decode cX6_init 80 = .ok (.bipush 10, 2) := by decide +kernel
theorem dX6_init_82 : decode cX6_init 82 = .ok (.newarray .int, 2) := by decide +kernel
theorem dX6_init_84 : decode cX6_init 84 = .ok (.dup, 1) := by decide +kernel
theorem dX6_init_85 : decode cX6_init 85 = .ok (.iconst 0, 1) := by decide +kernel
theorem dX6_init_86 : decode cX6_init 86 = .ok (.iconst 0, 1) := by decide +kernel
theorem dX6_init_87 : decode cX6_init 87 = .ok (.iastore, 1) := by decide +kernel
theorem dX6_init_88 : decode cX6_init 88 = .ok (.dup, 1) := by decide +kernel
theorem dX6_init_89 : decode cX6_init 89 = .ok (.iconst 1, 1) := by decide +kernel
theorem dX6_init_90 : decode cX6_init 90 = .ok (.iconst 1, 1) := by decide +kernel
theorem dX6_init_91 : decode cX6_init 91 = .ok (.iastore, 1) := by decide +kernel
theorem dX6_init_92 : decode cX6_init 92 = .ok (.dup, 1) := by decide +kernel
theorem dX6_init_93 : decode cX6_init 93 = .ok (.iconst 2, 1) := by decide +kernel
theorem dX6_init_94 : decode cX6_init 94 = .ok (.iconst 2, 1) := by decide +kernel
theorem dX6_init_95 : decode cX6_init 95 = .ok (.iastore, 1) := by decide +kernel
theorem dX6_init_96 : decode cX6_init 96 = .ok (.dup, 1) := by decide +kernel
theorem dX6_init_97 : decode cX6_init 97 = .ok (.iconst 3, 1) := by decide +kernel
theorem dX6_init_98 : decode cX6_init 98 = .ok (.iconst 3, 1) := by decide +kernel
theorem dX6_init_99 : decode cX6_init 99 = .ok (.iastore, 1) := by decide +kernel
theorem dX6_init_100 : decode cX6_init 100 = .ok (.dup, 1) := by decide +kernel
theorem dX6_init_101 : decode cX6_init 101 = .ok (.iconst 4, 1) := by decide +kernel
theorem dX6_init_102 : decode cX6_init 102 = .ok (.iconst 4, 1) := by decide +kernel
theorem dX6_init_103 : decode cX6_init 103 = .ok (.iastore, 1) := by decide +kernel
theorem dX6_init_104 : decode cX6_init 104 = .ok (.dup, 1) := by decide +kernel
theorem dX6_init_105 : decode cX6_init 105 = .ok (.iconst 5, 1) := by decide +kernel
theorem dX6_init_106 : decode cX6_init 106 = .ok (.iconst 5, 1) := by decide +kernel
theorem dX6_init_107 : decode cX6_init 107 = .ok (.iastore, 1) := by decide +kernel
theorem dX6_init_108 : decode cX6_init 108 = .ok (.dup, 1) := by decide +kernel
theorem dX6_init_109 : decode cX6_init 109 = .ok (.bipush 6, 2) := by decide +kernel
theorem dX6_init_111 : decode cX6_init 111 = .ok (.bipush 6, 2) := by decide +kernel
theorem dX6_init_113 : decode cX6_init 113 = .ok (.iastore, 1) := by decide +kernel
theorem dX6_init_114 : decode cX6_init 114 = .ok (.dup, 1) := by decide +kernel
theorem dX6_init_115 : decode cX6_init 115 = .ok (.bipush 7, 2) := by decide +kernel
theorem dX6_init_117 : decode cX6_init 117 = .ok (.bipush 7, 2) := by decide +kernel
theorem dX6_init_119 : decode cX6_init 119 = .ok (.iastore, 1) := by decide +kernel
theorem dX6_init_120 : decode cX6_init 120 = .ok (.dup, 1) := by decide +kernel
theorem dX6_init_121 : decode cX6_init 121 = .ok (.bipush 8, 2) := by decide +kernel
theorem dX6_init_123 : decode cX6_init 123 = .ok (.bipush 8, 2) := by decide +kernel
theorem dX6_init_125 : decode cX6_init 125 = .ok (.iastore, 1) := by decide +kernel
theorem dX6_init_126 : decode cX6_init 126 = .ok (.dup, 1) := by decide +kernel
theorem dX6_init_127 : decode cX6_init 127 = .ok (.bipush 9, 2) := by decide +kernel
theorem dX6_init_129 : decode cX6_init 129 = .ok (.bipush 9, 2) := by decide +kernel
theorem dX6_init_131 : decode cX6_init 131 = .ok (.iastore, 1) := by decide +kernel
theorem dX6_init_132 : decode cX6_init 132 = .ok (.putfield 20, 3) := by decide +kernel
theorem dX6_init_135 : decode cX6_init 135 = .ok (.aload_n 0, 1) := by decide +kernel
theorem dX6_init_136 : decode cX6_init 136 = .ok (.bipush 10, 2) := by decide +kernel
theorem dX6_init_138 : decode cX6_init 138 = .ok (.newarray .int, 2) := by decide +kernel
theorem dX6_init_140 : decode cX6_init 140 = .ok (.putfield 23, 3) := by decide +kernel
theorem dX6_init_143 : decode cX6_init 143 = .ok (.aload_n 0, 1) := by decide +kernel
theorem dX6_init_144 : decode cX6_init 144 = .ok (.bipush 10, 2) := by decide +kernel
theorem dX6_init_146 : decode cX6_init 146 = .ok (.newarray .int, 2) := by decide +kernel
theorem dX6_init_148 : decode cX6_init 148 = .ok (.putfield 26, 3) := by decide +kernel
theorem dX6_init_151 : decode cX6_init 151 = .ok (.aload_n 0, 1) := by decide +kernel
theorem dX6_init_152 : decode cX6_init 152 = .ok (.bipush 10, 2) := by decide +kernel
theorem dX6_init_154 : decode cX6_init 154 = .ok (.newarray .int, 2) := by decide +kernel
theorem dX6_init_156 : decode cX6_init 156 = .ok (.dup, 1) := by decide +kernel
theorem dX6_init_157 : decode cX6_init 157 = .ok (.iconst 0, 1) := by decide +kernel
theorem dX6_init_158 : decode cX6_init 158 = .ok (.bipush 99, 2) := by decide +kernel
theorem dX6_init_160 : decode cX6_init 160 = .ok (.iastore, 1) := by decide +kernel
theorem dX6_init_161 : decode cX6_init 161 = .ok (.dup, 1) := by decide +kernel
theorem dX6_init_162 : decode cX6_init 162 = .ok (.iconst 1, 1) := by decide +kernel
theorem dX6_init_163 : decode cX6_init 163 = .ok (.bipush 99, 2) := by decide +kernel
theorem dX6_init_165 : decode cX6_init 165 = .ok (.iastore, 1) := by decide +kernel
theorem dX6_init_166 : decode cX6_init 166 = .ok (.dup, 1) := by decide +kernel
theorem dX6_init_167 : decode cX6_init 167 = .ok (.iconst 2, 1) := by decide +kernel
theorem dX6_init_168 : decode cX6_init 168 = .ok (.bipush 99, 2) := by decide +kernel
theorem dX6_init_170 : decode cX6_init 170 = .ok (.iastore, 1) := by decide +kernel
theorem dX6_init_171 : decode cX6_init 171 = .ok (.dup, 1) := by decide +kernel
theorem dX6_init_172 : decode cX6_init 172 = .ok (.iconst 3, 1) := by decide +kernel
theorem dX6_init_173 : decode cX6_init 173 = .ok (.bipush 99, 2) := by decide +kernel
theorem dX6_init_175 : decode cX6_init 175 = .ok (.iastore, 1) := by decide +kernel
theorem dX6_init_176 : decode cX6_init 176 = .ok (.dup, 1) := by decide +kernel
theorem dX6_init_177 : decode cX6_init 177 = .ok (.iconst 4, 1) := by decide +kernel
theorem dX6_init_178 : decode cX6_init 178 = .ok (.bipush 99, 2) := by decide +kernel
theorem dX6_init_180 : decode cX6_init 180 = .ok (.iastore, 1) := by decide +kernel
theorem dX6_init_181 : decode cX6_init 181 = .ok (.dup, 1) := by decide +kernel
theorem dX6_init_182 : decode cX6_init 182 = .ok (.iconst 5, 1) := by decide +kernel
theorem dX6_init_183 : decode cX6_init 183 = .ok (.bipush 99, 2) := by decide +kernel
theorem dX6_init_185 : decode cX6_init 185 = .ok (.iastore, 1) := by decide +kernel
theorem dX6_init_186 : decode cX6_init 186 = .ok (.dup, 1) := by decide +kernel
theorem dX6_init_187 : decode cX6_init 187 = .ok (.bipush 6, 2) := by decide +kernel
theorem dX6_init_189 : decode cX6_init 189 = .ok (.bipush 99, 2) := by decide +kernel
theorem dX6_init_191 : decode cX6_init 191 = .ok (.iastore, 1) := by decide +kernel
theorem dX6_init_192 : decode cX6_init 192 = .ok (.dup, 1) := by decide +kernel
theorem dX6_init_193 : decode cX6_init 193 = .ok (.bipush 7, 2) := by decide +kernel
theorem dX6_init_195 : decode cX6_init 195 = .ok (.bipush 99, 2) := by decide +kernel
theorem dX6_init_197 : decode cX6_init 197 = .ok (.iastore, 1) := by decide +kernel
theorem dX6_init_198 : decode cX6_init 198 = .ok (.dup, 1) := by decide +kernel
theorem dX6_init_199 : decode cX6_init 199 = .ok (.bipush 8, 2) := by decide +kernel
theorem dX6_init_201 : decode cX6_init 201 = .ok (.bipush 99, 2) := by decide +kernel
theorem dX6_init_203 : decode cX6_init 203 = .ok (.iastore, 1) := by decide +kernel
theorem dX6_init_204 : decode cX6_init 204 = .ok (.dup, 1) := by decide +kernel
theorem dX6_init_205 : decode cX6_init 205 = .ok (.bipush 9, 2) := by decide +kernel
theorem dX6_init_207 : decode cX6_init 207 = .ok (.bipush 99, 2) := by decide +kernel
theorem dX6_init_209 : decode cX6_init 209 = .ok (.iastore, 1) := by decide +kernel
theorem dX6_init_210 : decode cX6_init 210 = .ok (.putfield 29, 3) := by decide +kernel
theorem dX6_init_213 : decode cX6_init 213 = .ok (.aload_n 0, 1) := by decide +kernel
theorem dX6_init_214 : decode cX6_init 214 = .ok (.bipush 10, 2) := by decide +kernel
theorem dX6_init_216 : decode cX6_init 216 = .ok (.newarray .int, 2) := by decide +kernel
theorem dX6_init_218 : decode cX6_init 218 = .ok (.putfield 32, 3) := by decide +kernel
theorem dX6_init_221 : decode cX6_init 221 = .ok (.aload_n 0, 1) := by decide +kernel
theorem dX6_init_222 : decode cX6_init 222 = .ok (.bipush 10, 2) := by decide +kernel
theorem dX6_init_224 : decode cX6_init 224 = .ok (.newarray .int, 2) := by decide +kernel
theorem dX6_init_226 : decode cX6_init 226 = .ok (.dup, 1) := by decide +kernel
theorem dX6_init_227 : decode cX6_init 227 = .ok (.iconst 0, 1) := by decide +kernel
theorem dX6_init_228 : decode cX6_init 228 = .ok (.iconst (-1), 1) := by decide +kernel
theorem dX6_init_229 : decode cX6_init 229 = .ok (.iastore, 1) := by decide +kernel
theorem dX6_init_230 : decode cX6_init 230 = .ok (.dup, 1) := by decide +kernel
theorem dX6_init_231 : decode cX6_init 231 = .ok (.iconst 1, 1) := by decide +kernel
theorem dX6_init_232 : decode cX6_init 232 = .ok (.iconst (-1), 1) := by decide +kernel
theorem dX6_init_233 : decode cX6_init 233 = .ok (.iastore, 1) := by decide +kernel
theorem dX6_init_234 : decode cX6_init 234 = .ok (.dup, 1) := by decide +kernel
theorem dX6_init_235 : decode cX6_init 235 = .ok (.iconst 2, 1) := by decide +kernel
theorem dX6_init_236 : decode cX6_init 236 = .ok (.iconst (-1), 1) := by decide +kernel
theorem dX6_init_237 : decode cX6_init 237 = .ok (.iastore, 1) := by decide +kernel
theorem dX6_init_238 : decode cX6_init 238 = .ok (.dup, 1) := by decide +kernel
theorem dX6_init_239 : decode cX6_init 239 = .ok (.iconst 3, 1) := by decide +kernel
theorem dX6_init_240 : decode cX6_init 240 = .ok (.iconst (-1), 1) := by decide +kernel
theorem dX6_init_241 : decode cX6_init 241 = .ok (.iastore, 1) := by decide +kernel
theorem dX6_init_242 : decode cX6_init 242 = .ok (.dup, 1) := by decide +kernel
theorem dX6_init_243 : decode cX6_init 243 = .ok (.iconst 4, 1) := by decide +kernel
theorem dX6_init_244 : decode cX6_init 244 = .ok (.iconst (-1), 1) := by decide +kernel
theorem dX6_init_245 : decode cX6_init 245 = .ok (.iastore, 1) := by decide +kernel
theorem dX6_init_246 : decode cX6_init 246 = .ok (.dup, 1) := by decide +kernel
theorem dX6_init_247 : decode cX6_init 247 = .ok (.iconst 5, 1) := by decide +kernel
theorem dX6_init_248 : decode cX6_init 248 = .ok (.iconst (-1), 1) := by decide +kernel
theorem dX6_init_249 : decode cX6_init 249 = .ok (.iastore, 1) := by decide +kernel
theorem dX6_init_250 : decode cX6_init 250 = .ok (.dup, 1) := by decide +kernel
theorem dX6_init_251 : decode cX6_init 251 = .ok (.bipush 6, 2) := by decide +kernel
theorem dX6_init_253 : decode cX6_init 253 = .ok (.iconst (-1), 1) := by decide +kernel
theorem dX6_init_254 : decode cX6_init 254 = .ok (.iastore, 1) := by decide +kernel
theorem dX6_init_255 : decode cX6_init 255 = .ok (.dup, 1) := by decide +kernel
theorem dX6_init_256 : decode cX6_init 256 = .ok (.bipush 7, 2) := by decide +kernel
theorem dX6_init_258 : decode cX6_init 258 = .ok (.iconst (-1), 1) := by decide +kernel
theorem dX6_init_259 : decode cX6_init 259 = .ok (.iastore, 1) := by decide +kernel
theorem dX6_init_260 : decode cX6_init 260 = .ok (.dup, 1) := by decide +kernel
theorem dX6_init_261 : decode cX6_init 261 = .ok (.bipush 8, 2) := by decide +kernel
theorem dX6_init_263 : decode cX6_init 263 = .ok (.iconst (-1), 1) := by decide +kernel
theorem dX6_init_264 : decode cX6_init 264 = .ok (.iastore, 1) := by decide +kernel
theorem dX6_init_265 : decode cX6_init 265 = .ok (.dup, 1) := by decide +kernel
theorem dX6_init_266 : decode cX6_init 266 = .ok (.bipush 9, 2) := by decide +kernel
theorem dX6_init_268 : decode cX6_init 268 = .ok (.iconst (-1), 1) := by decide +kernel
theorem dX6_init_269 : decode cX6_init 269 = .ok (.iastore, 1) := by decide +kernel
theorem dX6_init_270 : decode cX6_init 270 = .ok (.putfield 35, 3) := by decide +kernel
theorem dX6_init_273 : decode cX6_init 273 = .ok (.aload_n 0, 1) := by decide +kernel
theorem dX6_init_274 : decode cX6_init 274 = .ok (.bipush 10, 2) := by decide +kernel
theorem dX6_init_276 : decode cX6_init 276 = .ok (.newarray .int, 2) := by decide +kernel
theorem dX6_init_278 : decode cX6_init 278 = .ok (.putfield 38, 3) := by decide +kernel
theorem dX6_init_281 : decode cX6_init 281 = .ok (.aload_n 0, 1) := by decide +kernel
theorem dX6_init_282 : decode cX6_init 282 = .ok (.bipush 10, 2) := by decide +kernel
theorem dX6_init_284 : decode cX6_init 284 = .ok (.newarray .int, 2) := by decide +kernel
theorem dX6_init_286 : decode cX6_init 286 = .ok (.putfield 41, 3) := by decide +kernel
theorem dX6_init_289 : decode cX6_init 289 = .ok (.aload_n 0, 1) := by decide +kernel
theorem dX6_init_290 : decode cX6_init 290 = .ok (.bipush 10, 2) := by decide +kernel
theorem dX6_init_292 : decode cX6_init 292 = .ok (.newarray .int, 2) := by decide +kernel
theorem dX6_init_294 : decode cX6_init 294 = .ok (.putfield 44, 3) := by decide +kernel
theorem dX6_init_297 : decode cX6_init 297 = .ok (.aload_n 0, 1) := by decide +kernel
theorem dX6_init_298 : decode cX6_init 298 = .ok (.bipush 10, 2) := by decide +kernel
theorem dX6_init_300 : decode cX6_init 300 = .ok (.newarray .int, 2) := by decide +kernel
theorem dX6_init_302 : decode cX6_init 302 = .ok (.dup, 1) := by decide +kernel
theorem dX6_init_303 : decode cX6_init 303 = .ok (.iconst 0, 1) := by decide +kernel
theorem dX6_init_304 : decode cX6_init 304 = .ok (.iconst (-1), 1) := by decide +kernel
theorem dX6_init_305 : decode cX6_init 305 = .ok (.iastore, 1) := by decide +kernel
theorem dX6_init_306 : decode cX6_init 306 = .ok (.dup, 1) := by decide +kernel
theorem dX6_init_307 : decode cX6_init 307 = .ok (.iconst 1, 1) := by decide +kernel
theorem dX6_init_308 : decode cX6_init 308 = .ok (.iconst (-1), 1) := by decide +kernel
theorem dX6_init_309 : decode cX6_init 309 = .ok (.iastore, 1) := by decide +kernel
theorem dX6_init_310 : decode cX6_init 310 = .ok (.dup, 1) := by decide +kernel
theorem dX6_init_311 : decode cX6_init 311 = .ok (.iconst 2, 1) := by decide +kernel
theorem dX6_init_312 : decode cX6_init 312 = .ok (.iconst (-1), 1) := by decide +kernel
theorem dX6_init_313 : decode cX6_init 313 = .ok (.iastore, 1) := by decide +kernel
theorem dX6_init_314 : decode cX6_init 314 = .ok (.dup, 1) := by decide +kernel
theorem dX6_init_315 : decode cX6_init 315 = .ok (.iconst 3, 1) := by decide +kernel
theorem dX6_init_316 : decode cX6_init 316 = .ok (.iconst (-1), 1) := by decide +kernel
theorem dX6_init_317 : decode cX6_init 317 = .ok (.iastore, 1) := by decide +kernel
theorem dX6_init_318 : decode cX6_init 318 = .ok (.dup, 1) := by decide +kernel
theorem dX6_init_319 : decode cX6_init 319 = .ok (.iconst 4, 1) := by decide +kernel
theorem dX6_init_320 : decode cX6_init 320 = .ok (.iconst (-1), 1) := by decide +kernel
theorem dX6_init_321 : decode cX6_init 321 = .ok (.iastore, 1) := by decide +kernel
theorem dX6_init_322 : decode cX6_init 322 = .ok (.dup, 1) := by decide +kernel
theorem dX6_init_323 : decode cX6_init 323 = .ok (.iconst 5, 1) := by decide +kernel
theorem dX6_init_324 : decode cX6_init 324 = .ok (.iconst (-1), 1) := by decide +kernel
theorem dX6_init_325 : decode cX6_init 325 = .ok (.iastore, 1) := by decide +kernel
theorem dX6_init_326 : decode cX6_init 326 = .ok (.dup, 1) := by decide +kernel
theorem dX6_init_327 : decode cX6_init 327 = .ok (.bipush 6, 2) := by decide +kernel
theorem dX6_init_329 : decode cX6_init 329 = .ok (.iconst (-1), 1) := by decide +kernel
theorem dX6_init_330 : decode cX6_init 330 = .ok (.iastore, 1) := by decide +kernel
theorem dX6_init_331 : decode cX6_init 331 = .ok (.dup, 1) := by decide +kernel
theorem dX6_init_332 : decode cX6_init 332 = .ok (.bipush 7, 2) := by decide +kernel
theorem dX6_init_334 : decode cX6_init 334 = .ok (.iconst (-1), 1) := by decide +kernel
theorem dX6_init_335 : decode cX6_init 335 = .ok (.iastore, 1) := by decide +kernel
theorem dX6_init_336 : decode cX6_init 336 = .ok (.dup, 1) := by decide +kernel
theorem dX6_init_337 : decode cX6_init 337 = .ok (.bipush 8, 2) := by decide +kernel
theorem dX6_init_339 : decode cX6_init 339 = .ok (.iconst (-1), 1) := by decide +kernel
theorem dX6_init_340 : decode cX6_init 340 = .ok (.iastore, 1) := by decide +kernel
theorem dX6_init_341 : decode cX6_init 341 = .ok (.dup, 1) := by decide +kernel
theorem dX6_init_342 : decode cX6_init 342 = .ok (.bipush 9, 2) := by decide +kernel
theorem dX6_init_344 : decode cX6_init 344 = .ok (.iconst (-1), 1) := by decide +kernel
theorem dX6_init_345 : decode cX6_init 345 = .ok (.iastore, 1) := by decide +kernel
theorem dX6_init_346 : decode cX6_init 346 = .ok (.putfield 47, 3) := by decide +kernel
theorem dX6_init_349 : decode cX6_init 349 = .ok (.aload_n 0, 1) := by decide +kernel
theorem dX6_init_350 : decode cX6_init 350 = .ok (.bipush 10, 2) := by decide +kernel
theorem dX6_init_352 : decode cX6_init 352 = .ok (.newarray .int, 2) := by decide +kernel
theorem dX6_init_354 : decode cX6_init 354 = .ok (.dup, 1) := by decide +kernel
theorem dX6_init_355 : decode cX6_init 355 = .ok (.iconst 0, 1) := by decide +kernel
theorem dX6_init_356 : decode cX6_init 356 = .ok (.iconst (-1), 1) := by decide +kernel
theorem dX6_init_357 : decode cX6_init 357 = .ok (.iastore, 1) := by decide +kernel
theorem dX6_init_358 : decode cX6_init 358 = .ok (.dup, 1) := by decide +kernel
theorem dX6_init_359 : decode cX6_init 359 = .ok (.iconst 1, 1) := by decide +kernel
theorem dX6_init_360 : decode cX6_init 360 = .ok (.iconst (-1), 1) := by decide +kernel
theorem dX6_init_361 : decode cX6_init 361 = .ok (.iastore, 1) := by decide +kernel
theorem dX6_init_362 : decode cX6_init 362 = .ok (.dup, 1) := by decide +kernel
theorem dX6_init_363 : decode cX6_init 363 = .ok (.iconst 2, 1) := by decide +kernel
theorem dX6_init_364 : decode cX6_init 364 = .ok (.iconst (-1), 1) := by decide +kernel
theorem dX6_init_365 : decode cX6_init 365 = .ok (.iastore, 1) := by decide +kernel
theorem dX6_init_366 : decode cX6_init 366 = .ok (.dup, 1) := by decide +kernel
theorem dX6_init_367 : decode cX6_init 367 = .ok (.iconst 3, 1) := by decide +kernel
theorem dX6_init_368 : decode cX6_init 368 = .ok (.iconst (-1), 1) := by decide +kernel
theorem dX6_init_369 : decode cX6_init 369 = .ok (.iastore, 1) := by decide +kernel
theorem dX6_init_370 : decode cX6_init 370 = .ok (.dup, 1) := by decide +kernel
theorem dX6_init_371 : decode cX6_init 371 = .ok (.iconst 4, 1) := by decide +kernel
theorem dX6_init_372 : decode cX6_init 372 = .ok (.iconst (-1), 1) := by decide +kernel
theorem dX6_init_373 : decode cX6_init 373 = .ok (.iastore, 1) := by decide +kernel
theorem dX6_init_374 : decode cX6_init 374 = .ok (.dup, 1) := by decide +kernel
theorem dX6_init_375 : decode cX6_init 375 = .ok (.iconst 5, 1) := by decide +kernel
theorem dX6_init_376 : decode cX6_init 376 = .ok (.iconst (-1), 1) := by decide +kernel
theorem dX6_init_377 : decode cX6_init 377 = .ok (.iastore, 1) := by decide +kernel
theorem dX6_init_378 : decode cX6_init 378 = .ok (.dup, 1) := by decide +kernel
theorem dX6_init_379 : decode cX6_init 379 = .ok (.bipush 6, 2) := by decide +kernel
theorem dX6_init_381 : decode cX6_init 381 = .ok (.iconst (-1), 1) := by decide +kernel
theorem dX6_init_382 : decode cX6_init 382 = .ok (.iastore, 1) := by decide +kernel
theorem dX6_init_383 : decode cX6_init 383 = .ok (.dup, 1) := by decide +kernel
theorem dX6_init_384 : decode cX6_init 384 = .ok (.bipush 7, 2) := by decide +kernel
theorem dX6_init_386 : decode cX6_init 386 = .ok (.iconst (-1), 1) := by decide +kernel
theorem dX6_init_387 : decode cX6_init 387 = .ok (.iastore, 1) := by decide +kernel
theorem dX6_init_388 : decode cX6_init 388 = .ok (.dup, 1) := by decide +kernel
theorem dX6_init_389 : decode cX6_init 389 = .ok (.bipush 8, 2) := by decide +kernel
theorem dX6_init_391 : decode cX6_init 391 = .ok (.iconst (-1), 1) := by decide +kernel
theorem dX6_init_392 : decode cX6_init 392 = .ok (.iastore, 1) := by decide +kernel
theorem dX6_init_393 : decode cX6_init 393 = .ok (.dup, 1) := by decide +kernel
theorem dX6_init_394 : decode cX6_init 394 = .ok (.bipush 9, 2) := by decide +kernel
theorem dX6_init_396 : decode cX6_init 396 = .ok (.iconst (-1), 1) := by decide +kernel
theorem dX6_init_397 : decode cX6_init 397 = .ok (.iastore, 1) := by decide +kernel
theorem dX6_init_398 : decode cX6_init 398 = .ok (.putfield 50, 3) := by decide +kernel
theorem dX6_init_401 : decode cX6_init 401 = .ok (.aload_n 0, 1) := by decide +kernel
theorem dX6_init_402 : decode cX6_init 402 = .ok (.bipush 10, 2) := by decide +kernel
theorem dX6_init_404 : decode cX6_init 404 = .ok (.newarray .int, 2) := by decide +kernel
theorem dX6_init_406 : decode cX6_init 406 = .ok (.dup, 1) := by decide +kernel
theorem dX6_init_407 : decode cX6_init 407 = .ok (.iconst 0, 1) := by decide +kernel
theorem dX6_init_408 : decode cX6_init 408 = .ok (.bipush 20, 2) := by decide +kernel
theorem dX6_init_410 : decode cX6_init 410 = .ok (.iastore, 1) := by decide +kernel
theorem dX6_init_411 : decode cX6_init 411 = .ok (.dup, 1) := by decide +kernel
theorem dX6_init_412 : decode cX6_init 412 = .ok (.iconst 1, 1) := by decide +kernel
theorem dX6_init_413 : decode cX6_init 413 = .ok (.bipush 10, 2) := by decide +kernel
theorem dX6_init_415 : decode cX6_init 415 = .ok (.iastore, 1) := by decide +kernel
theorem dX6_init_416 : decode cX6_init 416 = .ok (.dup, 1) := by decide +kernel
theorem dX6_init_417 : decode cX6_init 417 = .ok (.iconst 2, 1) := by decide +kernel
theorem dX6_init_418 : decode cX6_init 418 = .ok (.iconst 5, 1) := by decide +kernel
theorem dX6_init_419 : decode cX6_init 419 = .ok (.iastore, 1) := by decide +kernel
theorem dX6_init_420 : decode cX6_init 420 = .ok (.dup, 1) := by decide +kernel
theorem dX6_init_421 : decode cX6_init 421 = .ok (.iconst 3, 1) := by decide +kernel
theorem dX6_init_422 : decode cX6_init 422 = .ok (.iconst 3, 1) := by decide +kernel
theorem dX6_init_423 : decode cX6_init 423 = .ok (.iastore, 1) := by decide +kernel
theorem dX6_init_424 : decode cX6_init 424 = .ok (.dup, 1) := by decide +kernel
theorem dX6_init_425 : decode cX6_init 425 = .ok (.iconst 4, 1) := by decide +kernel
theorem dX6_init_426 : decode cX6_init 426 = .ok (.iconst 5, 1) := by decide +kernel
theorem dX6_init_427 : decode cX6_init 427 = .ok (.iastore, 1) := by decide +kernel
theorem dX6_init_428 : decode cX6_init 428 = .ok (.dup, 1) := by decide +kernel
theorem dX6_init_429 : decode cX6_init 429 = .ok (.iconst 5, 1) := by decide +kernel
theorem dX6_init_430 : decode cX6_init 430 = .ok (.iconst 1, 1) := by decide +kernel
theorem dX6_init_431 : decode cX6_init 431 = .ok (.iastore, 1) := by decide +kernel
theorem dX6_init_432 : decode cX6_init 432 = .ok (.dup, 1) := by decide +kernel
theorem dX6_init_433 : decode cX6_init 433 = .ok (.bipush 6, 2) := by decide +kernel
theorem dX6_init_435 : decode cX6_init 435 = .ok (.bipush 10, 2) := by decide +kernel
theorem dX6_init_437 : decode cX6_init 437 = .ok (.iastore, 1) := by decide +kernel
theorem dX6_init_438 : decode cX6_init 438 = .ok (.dup, 1) := by decide +kernel
theorem dX6_init_439 : decode cX6_init 439 = .ok (.bipush 7, 2) := by decide +kernel
theorem dX6_init_441 : decode cX6_init 441 = .ok (.sipush 900, 3) := by decide +kernel
theorem dX6_init_444 : decode cX6_init 444 = .ok (.iastore, 1) := by decide +kernel
theorem dX6_init_445 : decode cX6_init 445 = .ok (.dup, 1) := by decide +kernel
theorem dX6_init_446 : decode cX6_init 446 = .ok (.bipush 8, 2) := by decide +kernel
theorem dX6_init_448 : decode cX6_init 448 = .ok (.sipush 300, 3) := by decide +kernel
theorem dX6_init_451 : decode cX6_init 451 = .ok (.iastore, 1) := by decide +kernel
theorem dX6_init_452 : decode cX6_init 452 = .ok (.dup, 1) := by decide +kernel
theorem dX6_init_453 : decode cX6_init 453 = .ok (.bipush 9, 2) := by decide +kernel
theorem dX6_init_455 : decode cX6_init 455 = .ok (.iconst 1, 1) := by decide +kernel
theorem dX6_init_456 : decode cX6_init 456 = .ok (.iastore, 1) := by decide +kernel
theorem dX6_init_457 : decode cX6_init 457 = .ok (.putfield 53, 3) := by decide +kernel
theorem dX6_init_460 : decode cX6_init 460 = .ok (.aload_n 0, 1) := by decide +kernel
theorem dX6_init_461 : decode cX6_init 461 = .ok (.sipush 400, 3) := by decide +kernel
theorem dX6_init_464 : decode cX6_init 464 = .ok (.newarray .int, 2) := by decide +kernel
theorem dX6_init_466 : decode cX6_init 466 = .ok (.putfield 56, 3) := by decide +kernel
theorem dX6_init_469 : decode cX6_init 469 = .ok (.aload_n 0, 1) := by decide +kernel
theorem dX6_init_470 : decode cX6_init 470 = .ok (.bipush 99, 2) := by decide +kernel
theorem dX6_init_472 : decode cX6_init 472 = .ok (.newarray .int, 2) := by decide +kernel
theorem dX6_init_474 : decode cX6_init 474 = .ok (.dup, 1) := by decide +kernel
theorem dX6_init_475 : decode cX6_init 475 = .ok (.iconst 0, 1) := by decide +kernel
theorem dX6_init_476 : decode cX6_init 476 = .ok (.bipush 32, 2) := by decide +kernel
theorem dX6_init_478 : decode cX6_init 478 = .ok (.iastore, 1) := by decide +kernel
theorem dX6_init_479 : decode cX6_init 479 = .ok (.dup, 1) := by decide +kernel
theorem dX6_init_480 : decode cX6_init 480 = .ok (.iconst 1, 1) := by decide +kernel
theorem dX6_init_481 : decode cX6_init 481 = .ok (.bipush 100, 2) := by decide +kernel
theorem dX6_init_483 : decode cX6_init 483 = .ok (.iastore, 1) := by decide +kernel
theorem dX6_init_484 : decode cX6_init 484 = .ok (.dup, 1) := by decide +kernel
theorem dX6_init_485 : decode cX6_init 485 = .ok (.iconst 2, 1) := by decide +kernel
theorem dX6_init_486 : decode cX6_init 486 = .ok (.bipush 111, 2) := by decide +kernel
theorem dX6_init_488 : decode cX6_init 488 = .ok (.iastore, 1) := by decide +kernel
theorem dX6_init_489 : decode cX6_init 489 = .ok (.dup, 1) := by decide +kernel
theorem dX6_init_490 : decode cX6_init 490 = .ok (.iconst 3, 1) := by decide +kernel
theorem dX6_init_491 : decode cX6_init 491 = .ok (.bipush 32, 2) := by decide +kernel
theorem dX6_init_493 : decode cX6_init 493 = .ok (.iastore, 1) := by decide +kernel
theorem dX6_init_494 : decode cX6_init 494 = .ok (.dup, 1) := by decide +kernel
theorem dX6_init_495 : decode cX6_init 495 = .ok (.iconst 4, 1) := by decide +kernel
theorem dX6_init_496 : decode cX6_init 496 = .ok (.bipush 119, 2) := by decide +kernel
theorem dX6_init_498 : decode cX6_init 498 = .ok (.iastore, 1) := by decide +kernel
theorem dX6_init_499 : decode cX6_init 499 = .ok (.dup, 1) := by decide +kernel
theorem dX6_init_500 : decode cX6_init 500 = .ok (.iconst 5, 1) := by decide +kernel
theorem dX6_init_501 : decode cX6_init 501 = .ok (.bipush 104, 2) := by decide +kernel
theorem dX6_init_503 : decode cX6_init 503 = .ok (.iastore, 1) := by decide +kernel
theorem dX6_init_504 : decode cX6_init 504 = .ok (.dup, 1) := by decide +kernel
theorem dX6_init_505 : decode cX6_init 505 = .ok (.bipush 6, 2) := by decide +kernel
theorem dX6_init_507 : decode cX6_init 507 = .ok (.bipush 101, 2) := by decide +kernel
theorem dX6_init_509 : decode cX6_init 509 = .ok (.iastore, 1) := by decide +kernel
theorem dX6_init_510 : decode cX6_init 510 = .ok (.dup, 1) := by decide +kernel
theorem dX6_init_511 : decode cX6_init 511 = .ok (.bipush 7, 2) := by decide +kernel
theorem dX6_init_513 : decode cX6_init 513 = .ok (.bipush 110, 2) := by decide +kernel
theorem dX6_init_515 : decode cX6_init 515 = .ok (.iastore, 1) := by decide +kernel
theorem dX6_init_516 : decode cX6_init 516 = .ok (.dup, 1) := by decide +kernel
theorem dX6_init_517 : decode cX6_init 517 = .ok (.bipush 8, 2) := by decide +kernel
theorem dX6_init_519 : decode cX6_init 519 = .ok (.bipush 32, 2) := by decide +kernel
theorem dX6_init_521 : decode cX6_init 521 = .ok (.iastore, 1) := by decide +kernel
theorem dX6_init_522 : decode cX6_init 522 = .ok (.dup, 1) := by decide +kernel
theorem dX6_init_523 : decode cX6_init 523 = .ok (.bipush 9, 2) := by decide +kernel
theorem dX6_init_525 : decode cX6_init 525 = .ok (.bipush 111, 2) := by decide +kernel
theorem dX6_init_527 : decode cX6_init 527 = .ok (.iastore, 1) := by decide +kernel
theorem dX6_init_528 : decode cX6_init 528 = .ok (.dup, 1) := by decide +kernel
theorem dX6_init_529 : decode cX6_init 529 = .ok (.bipush 10, 2) := by decide +kernel
theorem dX6_init_531 : decode cX6_init 531 = .ok (.bipush 114, 2) := by decide +kernel
theorem dX6_init_533 : decode cX6_init 533 = .ok (.iastore, 1) := by decide +kernel
theorem dX6_init_534 : decode cX6_init 534 = .ok (.dup, 1) := by decide +kernel
theorem dX6_init_535 : decode cX6_init 535 = .ok (.bipush 11, 2) := by decide +kernel
theorem dX6_init_537 : decode cX6_init 537 = .ok (.bipush 32, 2) := by decide +kernel
theorem dX6_init_539 : decode cX6_init 539 = .ok (.iastore, 1) := by decide +kernel
theorem dX6_init_540 : decode cX6_init 540 = .ok (.dup, 1) := by decide +kernel
theorem dX6_init_541 : decode cX6_init 541 = .ok (.bipush 12, 2) := by decide +kernel
theorem dX6_init_543 : decode cX6_init 543 = .ok (.bipush 97, 2) := by decide +kernel
theorem dX6_init_545 : decode cX6_init 545 = .ok (.iastore, 1) := by decide +kernel
theorem dX6_init_546 : decode cX6_init 546 = .ok (.dup, 1) := by decide +kernel
theorem dX6_init_547 : decode cX6_init 547 = .ok (.bipush 13, 2) := by decide +kernel
theorem dX6_init_549 : decode cX6_init 549 = .ok (.bipush 110, 2) := by decide +kernel
theorem dX6_init_551 : decode cX6_init 551 = .ok (.iastore, 1) := by decide +kernel
theorem dX6_init_552 : decode cX6_init 552 = .ok (.dup, 1) := by decide +kernel
theorem dX6_init_553 : decode cX6_init 553 = .ok (.bipush 14, 2) := by decide +kernel
theorem dX6_init_555 : decode cX6_init 555 = .ok (.bipush 100, 2) := by decide +kernel
theorem dX6_init_557 : decode cX6_init 557 = .ok (.iastore, 1) := by decide +kernel
theorem dX6_init_558 : decode cX6_init 558 = .ok (.dup, 1) := by decide +kernel
theorem dX6_init_559 : decode cX6_init 559 = .ok (.bipush 15, 2) := by decide +kernel
theorem dX6_init_561 : decode cX6_init 561 = .ok (.bipush 32, 2) := by decide +kernel
theorem dX6_init_563 : decode cX6_init 563 = .ok (.iastore, 1) := by decide +kernel
theorem dX6_init_564 : decode cX6_init 564 = .ok (.dup, 1) := by decide +kernel
theorem dX6_init_565 : decode cX6_init 565 = .ok (.bipush 16, 2) := by decide +kernel
theorem dX6_init_567 : decode cX6_init 567 = .ok (.bipush 110, 2) := by decide +kernel
theorem dX6_init_569 : decode cX6_init 569 = .ok (.iastore, 1) := by decide +kernel
theorem dX6_init_570 : decode cX6_init 570 = .ok (.dup, 1) := by decide +kernel
theorem dX6_init_571 : decode cX6_init 571 = .ok (.bipush 17, 2) := by decide +kernel
theorem dX6_init_573 : decode cX6_init 573 = .ok (.bipush 111, 2) := by decide +kernel
theorem dX6_init_575 : decode cX6_init 575 = .ok (.iastore, 1) := by decide +kernel
theorem dX6_init_576 : decode cX6_init 576 = .ok (.dup, 1) := by decide +kernel
theorem dX6_init_577 : decode cX6_init 577 = .ok (.bipush 18, 2) := by decide +kernel
theorem dX6_init_579 : decode cX6_init 579 = .ok (.bipush 116, 2) := by decide +kernel
theorem dX6_init_581 : decode cX6_init 581 = .ok (.iastore, 1) := by decide +kernel
theorem dX6_init_582 : decode cX6_init 582 = .ok (.dup, 1) := by decide +kernel
theorem dX6_init_583 : decode cX6_init 583 = .ok (.bipush 19, 2) := by decide +kernel
theorem dX6_init_585 : decode cX6_init 585 = .ok (.bipush 32, 2) := by decide +kernel
theorem dX6_init_587 : decode cX6_init 587 = .ok (.iastore, 1) := by decide +kernel
theorem dX6_init_588 : decode cX6_init 588 = .ok (.dup, 1) := by decide +kernel
theorem dX6_init_589 : decode cX6_init 589 = .ok (.bipush 20, 2) := by decide +kernel
theorem dX6_init_591 : decode cX6_init 591 = .ok (.bipush 119, 2) := by decide +kernel
theorem dX6_init_593 : decode cX6_init 593 = .ok (.iastore, 1) := by decide +kernel
theorem dX6_init_594 : decode cX6_init 594 = .ok (.dup, 1) := by decide +kernel
theorem dX6_init_595 : decode cX6_init 595 = .ok (.bipush 21, 2) := by decide +kernel
theorem dX6_init_597 : decode cX6_init 597 = .ok (.bipush 105, 2) := by decide +kernel
theorem dX6_init_599 : decode cX6_init 599 = .ok (.iastore, 1) := by decide +kernel
theorem dX6_init_600 : decode cX6_init 600 = .ok (.dup, 1) := by decide +kernel
theorem dX6_init_601 : decode cX6_init 601 = .ok (.bipush 22, 2) := by decide +kernel
theorem dX6_init_603 : decode cX6_init 603 = .ok (.bipush 100, 2) := by decide +kernel
theorem dX6_init_605 : decode cX6_init 605 = .ok (.iastore, 1) := by decide +kernel
theorem dX6_init_606 : decode cX6_init 606 = .ok (.dup, 1) := by decide +kernel
theorem dX6_init_607 : decode cX6_init 607 = .ok (.bipush 23, 2) := by decide +kernel
theorem dX6_init_609 : decode cX6_init 609 = .ok (.bipush 101, 2) := by decide +kernel
theorem dX6_init_611 : decode cX6_init 611 = .ok (.iastore, 1) := by decide +kernel
theorem dX6_init_612 : decode cX6_init 612 = .ok (.dup, 1) := by decide +kernel
theorem dX6_init_613 : decode cX6_init 613 = .ok (.bipush 24, 2) := by decide +kernel
theorem dX6_init_615 : decode cX6_init 615 = .ok (.bipush 32, 2) := by decide +kernel
theorem dX6_init_617 : decode cX6_init 617 = .ok (.iastore, 1) := by decide +kernel
theorem dX6_init_618 : decode cX6_init 618 = .ok (.dup, 1) := by decide +kernel
theorem dX6_init_619 : decode cX6_init 619 = .ok (.bipush 25, 2) := by decide +kernel
theorem dX6_init_621 : decode cX6_init 621 = .ok (.bipush 108, 2) := by decide +kernel
theorem dX6_init_623 : decode cX6_init 623 = .ok (.iastore, 1) := by decide +kernel
theorem dX6_init_624 : decode cX6_init 624 = .ok (.dup, 1) := by decide +kernel
theorem dX6_init_625 : decode cX6_init 625 = .ok (.bipush 26, 2) := by decide +kernel
theorem dX6_init_627 : decode cX6_init 627 = .ok (.bipush 119, 2) := by decide +kernel
theorem dX6_init_629 : decode cX6_init 629 = .ok (.iastore, 1) := by decide +kernel
theorem dX6_init_630 : decode cX6_init 630 = .ok (.dup, 1) := by decide +kernel
theorem dX6_init_631 : decode cX6_init 631 = .ok (.bipush 27, 2) := by decide +kernel
theorem dX6_init_633 : decode cX6_init 633 = .ok (.bipush 105, 2) := by decide +kernel
theorem dX6_init_635 : decode cX6_init 635 = .ok (.iastore, 1) := by decide +kernel
theorem dX6_init_636 : decode cX6_init 636 = .ok (.dup, 1) := by decide +kernel
theorem dX6_init_637 : decode cX6_init 637 = .ok (.bipush 28, 2) := by decide +kernel
theorem dX6_init_639 : decode cX6_init 639 = .ok (.bipush 100, 2) := by decide +kernel
theorem dX6_init_641 : decode cX6_init 641 = .ok (.iastore, 1) := by decide +kernel
theorem dX6_init_642 : decode cX6_init 642 = .ok (.dup, 1) := by decide +kernel
theorem dX6_init_643 : decode cX6_init 643 = .ok (.bipush 29, 2) := by decide +kernel
theorem dX6_init_645 : decode cX6_init 645 = .ok (.bipush 101, 2) := by decide +kernel
theorem dX6_init_647 : decode cX6_init 647 = .ok (.iastore, 1) := by decide +kernel
theorem dX6_init_648 : decode cX6_init 648 = .ok (.dup, 1) := by decide +kernel
theorem dX6_init_649 : decode cX6_init 649 = .ok (.bipush 30, 2) := by decide +kernel
theorem dX6_init_651 : decode cX6_init 651 = .ok (.bipush 32, 2) := by decide +kernel
theorem dX6_init_653 : decode cX6_init 653 = .ok (.iastore, 1) := by decide +kernel
theorem dX6_init_654 : decode cX6_init 654 = .ok (.dup, 1) := by decide +kernel
theorem dX6_init_655 : decode cX6_init 655 = .ok (.bipush 31, 2) := by decide +kernel
theorem dX6_init_657 : decode cX6_init 657 = .ok (.bipush 114, 2) := by decide +kernel
theorem dX6_init_659 : decode cX6_init 659 = .ok (.iastore, 1) := by decide +kernel
theorem dX6_init_660 : decode cX6_init 660 = .ok (.dup, 1) := by decide +kernel
theorem dX6_init_661 : decode cX6_init 661 = .ok (.bipush 32, 2) := by decide +kernel
theorem dX6_init_663 : decode cX6_init 663 = .ok (.bipush 119, 2) := by decide +kernel
theorem dX6_init_665 : decode cX6_init 665 = .ok (.iastore, 1) := by decide +kernel
theorem dX6_init_666 : decode cX6_init 666 = .ok (.dup, 1) := by decide +kernel
theorem dX6_init_667 : decode cX6_init 667 = .ok (.bipush 33, 2) := by decide +kernel
theorem dX6_init_669 : decode cX6_init 669 = .ok (.bipush 105, 2) := by decide +kernel
theorem dX6_init_671 : decode cX6_init 671 = .ok (.iastore, 1) := by decide +kernel
theorem dX6_init_672 : decode cX6_init 672 = .ok (.dup, 1) := by decide +kernel
theorem dX6_init_673 : decode cX6_init 673 = .ok (.bipush 34, 2) := by decide +kernel
theorem dX6_init_675 : decode cX6_init 675 = .ok (.bipush 100, 2) := by decide +kernel
theorem dX6_init_677 : decode cX6_init 677 = .ok (.iastore, 1) := by decide +kernel
theorem dX6_init_678 : decode cX6_init 678 = .ok (.dup, 1) := by decide +kernel
theorem dX6_init_679 : decode cX6_init 679 = .ok (.bipush 35, 2) := by decide +kernel
theorem dX6_init_681 : decode cX6_init 681 = .ok (.bipush 101, 2) := by decide +kernel
theorem dX6_init_683 : decode cX6_init 683 = .ok (.iastore, 1) := by decide +kernel
theorem dX6_init_684 : decode cX6_init 684 = .ok (.dup, 1) := by decide +kernel
theorem dX6_init_685 : decode cX6_init 685 = .ok (.bipush 36, 2) := by decide +kernel
theorem dX6_init_687 : decode cX6_init 687 = .ok (.bipush 32, 2) := by decide +kernel
theorem dX6_init_689 : decode cX6_init 689 = .ok (.iastore, 1) := by decide +kernel
theorem dX6_init_690 : decode cX6_init 690 = .ok (.dup, 1) := by decide +kernel
theorem dX6_init_691 : decode cX6_init 691 = .ok (.bipush 37, 2) := by decide +kernel
theorem dX6_init_693 : decode cX6_init 693 = .ok (.bipush 103, 2) := by decide +kernel
theorem dX6_init_695 : decode cX6_init 695 = .ok (.iastore, 1) := by decide +kernel
theorem dX6_init_696 : decode cX6_init 696 = .ok (.dup, 1) := by decide +kernel
theorem dX6_init_697 : decode cX6_init 697 = .ok (.bipush 38, 2) := by decide +kernel
theorem dX6_init_699 : decode cX6_init 699 = .ok (.bipush 97, 2) := by decide +kernel
theorem dX6_init_701 : decode cX6_init 701 = .ok (.iastore, 1) := by decide +kernel
theorem dX6_init_702 : decode cX6_init 702 = .ok (.dup, 1) := by decide +kernel
theorem dX6_init_703 : decode cX6_init 703 = .ok (.bipush 39, 2) := by decide +kernel
theorem dX6_init_705 : decode cX6_init 705 = .ok (.bipush 105, 2) := by decide +kernel
theorem dX6_init_707 : decode cX6_init 707 = .ok (.iastore, 1) := by decide +kernel
theorem dX6_init_708 : decode cX6_init 708 = .ok (.dup, 1) := by decide +kernel
theorem dX6_init_709 : decode cX6_init 709 = .ok (.bipush 40, 2) := by decide +kernel
theorem dX6_init_711 : decode cX6_init 711 = .ok (.bipush 110, 2) := by decide +kernel
theorem dX6_init_713 : decode cX6_init 713 = .ok (.iastore, 1) := by decide +kernel
theorem dX6_init_714 : decode cX6_init 714 = .ok (.dup, 1) := by decide +kernel
theorem dX6_init_715 : decode cX6_init 715 = .ok (.bipush 41, 2) := by decide +kernel
theorem dX6_init_717 : decode cX6_init 717 = .ok (.bipush 32, 2) := by decide +kernel
theorem dX6_init_719 : decode cX6_init 719 = .ok (.iastore, 1) := by decide +kernel
theorem dX6_init_720 : decode cX6_init 720 = .ok (.dup, 1) := by decide +kernel
theorem dX6_init_721 : decode cX6_init 721 = .ok (.bipush 42, 2) := by decide +kernel
theorem dX6_init_723 : decode cX6_init 723 = .ok (.bipush 108, 2) := by decide +kernel
theorem dX6_init_725 : decode cX6_init 725 = .ok (.iastore, 1) := by decide +kernel
theorem dX6_init_726 : decode cX6_init 726 = .ok (.dup, 1) := by decide +kernel
theorem dX6_init_727 : decode cX6_init 727 = .ok (.bipush 43, 2) := by decide +kernel
theorem dX6_init_729 : decode cX6_init 729 = .ok (.bipush 111, 2) := by decide +kernel
theorem dX6_init_731 : decode cX6_init 731 = .ok (.iastore, 1) := by decide +kernel
theorem dX6_init_732 : decode cX6_init 732 = .ok (.dup, 1) := by decide +kernel
theorem dX6_init_733 : decode cX6_init 733 = .ok (.bipush 44, 2) := by decide +kernel
theorem dX6_init_735 : decode cX6_init 735 = .ok (.bipush 115, 2) := by decide +kernel
theorem dX6_init_737 : decode cX6_init 737 = .ok (.iastore, 1) := by decide +kernel
theorem dX6_init_738 : decode cX6_init 738 = .ok (.dup, 1) := by decide +kernel
theorem dX6_init_739 : decode cX6_init 739 = .ok (.bipush 45, 2) := by decide +kernel
theorem dX6_init_741 : decode cX6_init 741 = .ok (.bipush 115, 2) := by decide +kernel
theorem dX6_init_743 : decode cX6_init 743 = .ok (.iastore, 1) := by decide +kernel
theorem dX6_init_744 : decode cX6_init 744 = .ok (.dup, 1) := by decide +kernel
theorem dX6_init_745 : decode cX6_init 745 = .ok (.bipush 46, 2) := by decide +kernel
theorem dX6_init_747 : decode cX6_init 747 = .ok (.bipush 32, 2) := by decide +kernel
theorem dX6_init_749 : decode cX6_init 749 = .ok (.iastore, 1) := by decide +kernel
theorem dX6_init_750 : decode cX6_init 750 = .ok (.dup, 1) := by decide +kernel
theorem dX6_init_751 : decode cX6_init 751 = .ok (.bipush 47, 2) := by decide +kernel
theorem dX6_init_753 : decode cX6_init 753 = .ok (.bipush 110, 2) := by decide +kernel
theorem dX6_init_755 : decode cX6_init 755 = .ok (.iastore, 1) := by decide +kernel
theorem dX6_init_756 : decode cX6_init 756 = .ok (.dup, 1) := by decide +kernel
theorem dX6_init_757 : decode cX6_init 757 = .ok (.bipush 48, 2) := by decide +kernel
theorem dX6_init_759 : decode cX6_init 759 = .ok (.bipush 105, 2) := by decide +kernel
theorem dX6_init_761 : decode cX6_init 761 = .ok (.iastore, 1) := by decide +kernel
theorem dX6_init_762 : decode cX6_init 762 = .ok (.dup, 1) := by decide +kernel
theorem dX6_init_763 : decode cX6_init 763 = .ok (.bipush 49, 2) := by decide +kernel
theorem dX6_init_765 : decode cX6_init 765 = .ok (.bipush 103, 2) := by decide +kernel
theorem dX6_init_767 : decode cX6_init 767 = .ok (.iastore, 1) := by decide +kernel
theorem dX6_init_768 : decode cX6_init 768 = .ok (.dup, 1) := by decide +kernel
theorem dX6_init_769 : decode cX6_init 769 = .ok (.bipush 50, 2) := by decide +kernel
theorem dX6_init_771 : decode cX6_init 771 = .ok (.bipush 104, 2) := by decide +kernel
theorem dX6_init_773 : decode cX6_init 773 = .ok (.iastore, 1) := by decide +kernel
theorem dX6_init_774 : decode cX6_init 774 = .ok (.dup, 1) := by decide +kernel
theorem dX6_init_775 : decode cX6_init 775 = .ok (.bipush 51, 2) := by decide +kernel
theorem dX6_init_777 : decode cX6_init 777 = .ok (.bipush 116, 2) := by decide +kernel
theorem dX6_init_779 : decode cX6_init 779 = .ok (.iastore, 1) := by decide +kernel
theorem dX6_init_780 : decode cX6_init 780 = .ok (.dup, 1) := by decide +kernel
theorem dX6_init_781 : decode cX6_init 781 = .ok (.bipush 52, 2) := by decide +kernel
theorem dX6_init_783 : decode cX6_init 783 = .ok (.bipush 32, 2) := by decide +kernel
theorem dX6_init_785 : decode cX6_init 785 = .ok (.iastore, 1) := by decide +kernel
theorem dX6_init_786 : decode cX6_init 786 = .ok (.dup, 1) := by decide +kernel
theorem dX6_init_787 : decode cX6_init 787 = .ok (.bipush 53, 2) := by decide +kernel
theorem dX6_init_789 : decode cX6_init 789 = .ok (.bipush 104, 2) := by decide +kernel
theorem dX6_init_791 : decode cX6_init 791 = .ok (.iastore, 1) := by decide +kernel
theorem dX6_init_792 : decode cX6_init 792 = .ok (.dup, 1) := by decide +kernel
theorem dX6_init_793 : decode cX6_init 793 = .ok (.bipush 54, 2) := by decide +kernel
theorem dX6_init_795 : decode cX6_init 795 = .ok (.bipush 105, 2) := by decide +kernel
theorem dX6_init_797 : decode cX6_init 797 = .ok (.iastore, 1) := by decide +kernel
theorem dX6_init_798 : decode cX6_init 798 = .ok (.dup, 1) := by decide +kernel
theorem dX6_init_799 : decode cX6_init 799 = .ok (.bipush 55, 2) := by decide +kernel
theorem dX6_init_801 : decode cX6_init 801 = .ok (.bipush 116, 2) := by decide +kernel
theorem dX6_init_803 : decode cX6_init 803 = .ok (.iastore, 1) := by decide +kernel
theorem dX6_init_804 : decode cX6_init 804 = .ok (.dup, 1) := by decide +kernel
theorem dX6_init_805 : decode cX6_init 805 = .ok (.bipush 56, 2) := by decide +kernel
theorem dX6_init_807 : decode cX6_init 807 = .ok (.bipush 32, 2) := by decide +kernel
theorem dX6_init_809 : decode cX6_init 809 = .ok (.iastore, 1) := by decide +kernel
theorem dX6_init_810 : decode cX6_init 810 = .ok (.dup, 1) := by decide +kernel
theorem dX6_init_811 : decode cX6_init 811 = .ok (.bipush 57, 2) := by decide +kernel
theorem dX6_init_813 : decode cX6_init 813 = .ok (.bipush 100, 2) := by decide +kernel
theorem dX6_init_815 : decode cX6_init 815 = .ok (.iastore, 1) := by decide +kernel
theorem dX6_init_816 : decode cX6_init 816 = .ok (.dup, 1) := by decide +kernel
theorem dX6_init_817 : decode cX6_init 817 = .ok (.bipush 58, 2) := by decide +kernel
theorem dX6_init_819 : decode cX6_init 819 = .ok (.bipush 111, 2) := by decide +kernel
theorem dX6_init_821 : decode cX6_init 821 = .ok (.iastore, 1) := by decide +kernel
theorem dX6_init_822 : decode cX6_init 822 = .ok (.dup, 1) := by decide +kernel
theorem dX6_init_823 : decode cX6_init 823 = .ok (.bipush 59, 2) := by decide +kernel
theorem dX6_init_825 : decode cX6_init 825 = .ok (.bipush 103, 2) := by decide +kernel
theorem dX6_init_827 : decode cX6_init 827 = .ok (.iastore, 1) := by decide +kernel
theorem dX6_init_828 : decode cX6_init 828 = .ok (.dup, 1) := by decide +kernel
theorem dX6_init_829 : decode cX6_init 829 = .ok (.bipush 60, 2) := by decide +kernel
theorem dX6_init_831 : decode cX6_init 831 = .ok (.bipush 32, 2) := by decide +kernel
theorem dX6_init_833 : decode cX6_init 833 = .ok (.iastore, 1) := by decide +kernel
theorem dX6_init_834 : decode cX6_init 834 = .ok (.dup, 1) := by decide +kernel
theorem dX6_init_835 : decode cX6_init 835 = .ok (.bipush 61, 2) := by decide +kernel
theorem dX6_init_837 : decode cX6_init 837 = .ok (.bipush 108, 2) := by decide +kernel
theorem dX6_init_839 : decode cX6_init 839 = .ok (.iastore, 1) := by decide +kernel
theorem dX6_init_840 : decode cX6_init 840 = .ok (.dup, 1) := by decide +kernel
theorem dX6_init_841 : decode cX6_init 841 = .ok (.bipush 62, 2) := by decide +kernel
theorem dX6_init_843 : decode cX6_init 843 = .ok (.bipush 100, 2) := by decide +kernel
theorem dX6_init_845 : decode cX6_init 845 = .ok (.iastore, 1) := by decide +kernel
theorem dX6_init_846 : decode cX6_init 846 = .ok (.dup, 1) := by decide +kernel
theorem dX6_init_847 : decode cX6_init 847 = .ok (.bipush 63, 2) := by decide +kernel
theorem dX6_init_849 : decode cX6_init 849 = .ok (.bipush 111, 2) := by decide +kernel
theorem dX6_init_851 : decode cX6_init 851 = .ok (.iastore, 1) := by decide +kernel
theorem dX6_init_852 : decode cX6_init 852 = .ok (.dup, 1) := by decide +kernel
theorem dX6_init_853 : decode cX6_init 853 = .ok (.bipush 64, 2) := by decide +kernel
theorem dX6_init_855 : decode cX6_init 855 = .ok (.bipush 103, 2) := by decide +kernel
theorem dX6_init_857 : decode cX6_init 857 = .ok (.iastore, 1) := by decide +kernel
theorem dX6_init_858 : decode cX6_init 858 = .ok (.dup, 1) := by decide +kernel
theorem dX6_init_859 : decode cX6_init 859 = .ok (.bipush 65, 2) := by decide +kernel
theorem dX6_init_861 : decode cX6_init 861 = .ok (.bipush 32, 2) := by decide +kernel
theorem dX6_init_863 : decode cX6_init 863 = .ok (.iastore, 1) := by decide +kernel
theorem dX6_init_864 : decode cX6_init 864 = .ok (.dup, 1) := by decide +kernel
theorem dX6_init_865 : decode cX6_init 865 = .ok (.bipush 66, 2) := by decide +kernel
theorem dX6_init_867 : decode cX6_init 867 = .ok (.bipush 114, 2) := by decide +kernel
theorem dX6_init_869 : decode cX6_init 869 = .ok (.iastore, 1) := by decide +kernel
theorem dX6_init_870 : decode cX6_init 870 = .ok (.dup, 1) := by decide +kernel
theorem dX6_init_871 : decode cX6_init 871 = .ok (.bipush 67, 2) := by decide +kernel
theorem dX6_init_873 : decode cX6_init 873 = .ok (.bipush 100, 2) := by decide +kernel
theorem dX6_init_875 : decode cX6_init 875 = .ok (.iastore, 1) := by decide +kernel
theorem dX6_init_876 : decode cX6_init 876 = .ok (.dup, 1) := by decide +kernel
theorem dX6_init_877 : decode cX6_init 877 = .ok (.bipush 68, 2) := by decide +kernel
theorem dX6_init_879 : decode cX6_init 879 = .ok (.bipush 111, 2) := by decide +kernel
theorem dX6_init_881 : decode cX6_init 881 = .ok (.iastore, 1) := by decide +kernel
theorem dX6_init_882 : decode cX6_init 882 = .ok (.dup, 1) := by decide +kernel
theorem dX6_init_883 : decode cX6_init 883 = .ok (.bipush 69, 2) := by decide +kernel
theorem dX6_init_885 : decode cX6_init 885 = .ok (.bipush 103, 2) := by decide +kernel
theorem dX6_init_887 : decode cX6_init 887 = .ok (.iastore, 1) := by decide +kernel
theorem dX6_init_888 : decode cX6_init 888 = .ok (.dup, 1) := by decide +kernel
theorem dX6_init_889 : decode cX6_init 889 = .ok (.bipush 70, 2) := by decide +kernel
theorem dX6_init_891 : decode cX6_init 891 = .ok (.bipush 32, 2) := by decide +kernel
theorem dX6_init_893 : decode cX6_init 893 = .ok (.iastore, 1) := by decide +kernel
theorem dX6_init_894 : decode cX6_init 894 = .ok (.dup, 1) := by decide +kernel
theorem dX6_init_895 : decode cX6_init 895 = .ok (.bipush 71, 2) := by decide +kernel
theorem dX6_init_897 : decode cX6_init 897 = .ok (.bipush 108, 2) := by decide +kernel
theorem dX6_init_899 : decode cX6_init 899 = .ok (.iastore, 1) := by decide +kernel
theorem dX6_init_900 : decode cX6_init 900 = .ok (.dup, 1) := by decide +kernel
theorem dX6_init_901 : decode cX6_init 901 = .ok (.bipush 72, 2) := by decide +kernel
theorem dX6_init_903 : decode cX6_init 903 = .ok (.bipush 107, 2) := by decide +kernel
theorem dX6_init_905 : decode cX6_init 905 = .ok (.iastore, 1) := by decide +kernel
theorem dX6_init_906 : decode cX6_init 906 = .ok (.dup, 1) := by decide +kernel
theorem dX6_init_907 : decode cX6_init 907 = .ok (.bipush 73, 2) := by decide +kernel
theorem dX6_init_909 : decode cX6_init 909 = .ok (.bipush 105, 2) := by decide +kernel
theorem dX6_init_911 : decode cX6_init 911 = .ok (.iastore, 1) := by decide +kernel
theorem dX6_init_912 : decode cX6_init 912 = .ok (.dup, 1) := by decide +kernel
theorem dX6_init_913 : decode cX6_init 913 = .ok (.bipush 74, 2) := by decide +kernel
theorem dX6_init_915 : decode cX6_init 915 = .ok (.bipush 110, 2) := by decide +kernel
theorem dX6_init_917 : decode cX6_init 917 = .ok (.iastore, 1) := by decide +kernel
theorem dX6_init_918 : decode cX6_init 918 = .ok (.dup, 1) := by decide +kernel
theorem dX6_init_919 : decode cX6_init 919 = .ok (.bipush 75, 2) := by decide +kernel
theorem dX6_init_921 : decode cX6_init 921 = .ok (.bipush 32, 2) := by decide +kernel
theorem dX6_init_923 : decode cX6_init 923 = .ok (.iastore, 1) := by decide +kernel
theorem dX6_init_924 : decode cX6_init 924 = .ok (.dup, 1) := by decide +kernel
theorem dX6_init_925 : decode cX6_init 925 = .ok (.bipush 76, 2) := by decide +kernel
theorem dX6_init_927 : decode cX6_init 927 = .ok (.bipush 114, 2) := by decide +kernel
theorem dX6_init_929 : decode cX6_init 929 = .ok (.iastore, 1) := by decide +kernel
theorem dX6_init_930 : decode cX6_init 930 = .ok (.dup, 1) := by decide +kernel
theorem dX6_init_931 : decode cX6_init 931 = .ok (.bipush 77, 2) := by decide +kernel
theorem dX6_init_933 : decode cX6_init 933 = .ok (.bipush 107, 2) := by decide +kernel
theorem dX6_init_935 : decode cX6_init 935 = .ok (.iastore, 1) := by decide +kernel
theorem dX6_init_936 : decode cX6_init 936 = .ok (.dup, 1) := by decide +kernel
theorem dX6_init_937 : decode cX6_init 937 = .ok (.bipush 78, 2) := by decide +kernel
theorem dX6_init_939 : decode cX6_init 939 = .ok (.bipush 105, 2) := by decide +kernel
theorem dX6_init_941 : decode cX6_init 941 = .ok (.iastore, 1) := by decide +kernel
theorem dX6_init_942 : decode cX6_init 942 = .ok (.dup, 1) := by decide +kernel
theorem dX6_init_943 : decode cX6_init 943 = .ok (.bipush 79, 2) := by decide +kernel
theorem dX6_init_945 : decode cX6_init 945 = .ok (.bipush 110, 2) := by decide +kernel
theorem dX6_init_947 : decode cX6_init 947 = .ok (.iastore, 1) := by decide +kernel
theorem dX6_init_948 : decode cX6_init 948 = .ok (.dup, 1) := by decide +kernel
theorem dX6_init_949 : decode cX6_init 949 = .ok (.bipush 80, 2) := by decide +kernel
theorem dX6_init_951 : decode cX6_init 951 = .ok (.bipush 32, 2) := by decide +kernel
theorem dX6_init_953 : decode cX6_init 953 = .ok (.iastore, 1) := by decide +kernel
theorem dX6_init_954 : decode cX6_init 954 = .ok (.dup, 1) := by decide +kernel
theorem dX6_init_955 : decode cX6_init 955 = .ok (.bipush 81, 2) := by decide +kernel
theorem dX6_init_957 : decode cX6_init 957 = .ok (.bipush 108, 2) := by decide +kernel
theorem dX6_init_959 : decode cX6_init 959 = .ok (.iastore, 1) := by decide +kernel
theorem dX6_init_960 : decode cX6_init 960 = .ok (.dup, 1) := by decide +kernel
theorem dX6_init_961 : decode cX6_init 961 = .ok (.bipush 82, 2) := by decide +kernel
theorem dX6_init_963 : decode cX6_init 963 = .ok (.bipush 119, 2) := by decide +kernel
theorem dX6_init_965 : decode cX6_init 965 = .ok (.iastore, 1) := by decide +kernel
theorem dX6_init_966 : decode cX6_init 966 = .ok (.dup, 1) := by decide +kernel
theorem dX6_init_967 : decode cX6_init 967 = .ok (.bipush 83, 2) := by decide +kernel
theorem dX6_init_969 : decode cX6_init 969 = .ok (.bipush 97, 2) := by decide +kernel
theorem dX6_init_971 : decode cX6_init 971 = .ok (.iastore, 1) := by decide +kernel
theorem dX6_init_972 : decode cX6_init 972 = .ok (.dup, 1) := by decide +kernel
theorem dX6_init_973 : decode cX6_init 973 = .ok (.bipush 84, 2) := by decide +kernel
theorem dX6_init_975 : decode cX6_init 975 = .ok (.bipush 108, 2) := by decide +kernel
theorem dX6_init_977 : decode cX6_init 977 = .ok (.iastore, 1) := by decide +kernel
theorem dX6_init_978 : decode cX6_init 978 = .ok (.dup, 1) := by decide +kernel
theorem dX6_init_979 : decode cX6_init 979 = .ok (.bipush 85, 2) := by decide +kernel
theorem dX6_init_981 : decode cX6_init 981 = .ok (.bipush 108, 2) := by decide +kernel
theorem dX6_init_983 : decode cX6_init 983 = .ok (.iastore, 1) := by decide +kernel
theorem dX6_init_984 : decode cX6_init 984 = .ok (.dup, 1) := by decide +kernel
theorem dX6_init_985 : decode cX6_init 985 = .ok (.bipush 86, 2) := by decide +kernel
theorem dX6_init_987 : decode cX6_init 987 = .ok (.bipush 32, 2) := by decide +kernel
theorem dX6_init_989 : decode cX6_init 989 = .ok (.iastore, 1) := by decide +kernel
theorem dX6_init_990 : decode cX6_init 990 = .ok (.dup, 1) := by decide +kernel
theorem dX6_init_991 : decode cX6_init 991 = .ok (.bipush 87, 2) := by decide +kernel
theorem dX6_init_993 : decode cX6_init 993 = .ok (.bipush 114, 2) := by decide +kernel
theorem dX6_init_995 : decode cX6_init 995 = .ok (.iastore, 1) := by decide +kernel
theorem dX6_init_996 : decode cX6_init 996 = .ok (.dup, 1) := by decide +kernel
theorem dX6_init_997 : decode cX6_init 997 = .ok (.bipush 88, 2) := by decide +kernel
theorem dX6_init_999 : decode cX6_init 999 = .ok (.bipush 119, 2) := by decide +kernel
theorem dX6_init_1001 : decode cX6_init 1001 = .ok (.iastore, 1) := by decide +kernel
theorem dX6_init_1002 : decode cX6_init 1002 = .ok (.dup, 1) := by decide +kernel
theorem dX6_init_1003 : decode cX6_init 1003 = .ok (.bipush 89, 2) := by decide +kernel
theorem dX6_init_1005 : decode cX6_init 1005 = .ok (.bipush 97, 2) := by decide +kernel
theorem dX6_init_1007 : decode cX6_init 1007 = .ok (.iastore, 1) := by decide +kernel
theorem dX6_init_1008 : decode cX6_init 1008 = .ok (.dup, 1) := by decide +kernel
theorem dX6_init_1009 : decode cX6_init 1009 = .ok (.bipush 90, 2) := by decide +kernel
theorem dX6_init_1011 : decode cX6_init 1011 = .ok (.bipush 108, 2) := by decide +kernel
theorem dX6_init_1013 : decode cX6_init 1013 = .ok (.iastore, 1) := by decide +kernel
theorem dX6_init_1014 : decode cX6_init 1014 = .ok (.dup, 1) := by decide +kernel
theorem dX6_init_1015 : decode cX6_init 1015 = .ok (.bipush 91, 2) := by decide +kernel
theorem dX6_init_1017 : decode cX6_init 1017 = .ok (.bipush 108, 2) := by decide +kernel
theorem dX6_init_1019 : decode cX6_init 1019 = .ok (.iastore, 1) := by decide +kernel
theorem dX6_init_1020 : decode cX6_init 1020 = .ok (.dup, 1) := by decide +kernel
theorem dX6_init_1021 : decode cX6_init 1021 = .ok (.bipush 92, 2) := by decide +kernel
theorem dX6_init_1023 : decode cX6_init 1023 = .ok (.bipush 32, 2) := by decide +kernel
theorem dX6_init_1025 : decode cX6_init 1025 = .ok (.iastore, 1) := by decide +kernel
theorem dX6_init_1026 : decode cX6_init 1026 = .ok (.dup, 1) := by decide +kernel
theorem dX6_init_1027 : decode cX6_init 1027 = .ok (.bipush 93, 2) := by decide +kernel
theorem dX6_init_1029 : decode cX6_init 1029 = .ok (.bipush 112, 2) := by decide +kernel
theorem dX6_init_1031 : decode cX6_init 1031 = .ok (.iastore, 1) := by decide +kernel
theorem dX6_init_1032 : decode cX6_init 1032 = .ok (.dup, 1) := by decide +kernel
theorem dX6_init_1033 : decode cX6_init 1033 = .ok (.bipush 94, 2) := by decide +kernel
theorem dX6_init_1035 : decode cX6_init 1035 = .ok (.bipush 117, 2) := by decide +kernel
theorem dX6_init_1037 : decode cX6_init 1037 = .ok (.iastore, 1) := by decide +kernel
theorem dX6_init_1038 : decode cX6_init 1038 = .ok (.dup, 1) := by decide +kernel
theorem dX6_init_1039 : decode cX6_init 1039 = .ok (.bipush 95, 2) := by decide +kernel
theorem dX6_init_1041 : decode cX6_init 1041 = .ok (.bipush 114, 2) := by decide +kernel
theorem dX6_init_1043 : decode cX6_init 1043 = .ok (.iastore, 1) := by decide +kernel
theorem dX6_init_1044 : decode cX6_init 1044 = .ok (.dup, 1) := by decide +kernel
theorem dX6_init_1045 : decode cX6_init 1045 = .ok (.bipush 96, 2) := by decide +kernel
theorem dX6_init_1047 : decode cX6_init 1047 = .ok (.bipush 115, 2) := by decide +kernel
theorem dX6_init_1049 : decode cX6_init 1049 = .ok (.iastore, 1) := by decide +kernel
theorem dX6_init_1050 : decode cX6_init 1050 = .ok (.dup, 1) := by decide +kernel
theorem dX6_init_1051 : decode cX6_init 1051 = .ok (.bipush 97, 2) := by decide +kernel
theorem dX6_init_1053 : decode cX6_init 1053 = .ok (.bipush 101, 2) := by decide +kernel
theorem dX6_init_1055 : decode cX6_init 1055 = .ok (.iastore, 1) := by decide +kernel
theorem dX6_init_1056 : decode cX6_init 1056 = .ok (.dup, 1) := by decide +kernel
theorem dX6_init_1057 : decode cX6_init 1057 = .ok (.bipush 98, 2) := by decide +kernel
theorem dX6_init_1059 : decode cX6_init 1059 = .ok (.bipush 32, 2) := by decide +kernel
theorem dX6_init_1061 : decode cX6_init 1061 = .ok (.iastore, 1) := by decide +kernel
theorem dX6_init_1062 : decode cX6_init 1062 = .ok (.putfield 59, 3) := by decide +kernel
theorem dX6_init_1065 : decode cX6_init 1065 = .ok (.aload_n 0, 1) := by decide +kernel
theorem dX6_init_1066 : decode cX6_init 1066 = .ok (.iconst 5, 1) := by decide +kernel
theorem dX6_init_1067 : decode cX6_init 1067 = .ok (.newarray .int, 2) := by decide +kernel
theorem dX6_init_1069 : decode cX6_init 1069 = .ok (.putfield 62, 3) := by decide +kernel
theorem dX6_init_1072 : decode cX6_init 1072 = .ok (.aload_n 0, 1) := by decide +kernel
theorem dX6_init_1073 : decode cX6_init 1073 = .ok (.bipush 80, 2) := by decide +kernel
theorem dX6_init_1075 : decode cX6_init 1075 = .ok (.newarray .int, 2) := by decide +kernel
theorem dX6_init_1077 : decode cX6_init 1077 = .ok (.putfield 65, 3) := by decide +kernel
theorem dX6_init_1080 : decode cX6_init 1080 = .ok (.aload_n 0, 1) := by decide +kernel
theorem dX6_init_1081 : decode cX6_init 1081 = .ok (.bipush 80, 2) := by decide +kernel
theorem dX6_init_1083 : decode cX6_init 1083 = .ok (.newarray .int, 2) := by decide +kernel
theorem dX6_init_1085 : decode cX6_init 1085 = .ok (.putfield 68, 3) := by decide +kernel
theorem dX6_init_1088 : decode cX6_init 1088 = .ok (.aload_n 0, 1) := by decide +kernel
theorem dX6_init_1089 : decode cX6_init 1089 = .ok (.bipush 80, 2) := by decide +kernel
theorem dX6_init_1091 : decode cX6_init 1091 = .ok (.newarray .int, 2) := by decide +kernel
theorem dX6_init_1093 : decode cX6_init 1093 = .ok (.putfield 71, 3) := by decide +kernel
theorem dX6_init_1096 : decode cX6_init 1096 = .ok (.aload_n 0, 1) := by decide +kernel
theorem dX6_init_1097 : decode cX6_init 1097 = .ok (.sipush 2000, 3) := by decide +kernel
theorem dX6_init_1100 : decode cX6_init 1100 = .ok (.newarray .int, 2) := by decide +kernel
theorem dX6_init_1102 : decode cX6_init 1102 = .ok (.putfield 74, 3) := by decide +kernel
theorem dX6_init_1105 : decode cX6_init 1105 = .ok (.aload_n 0, 1) := by decide +kernel
theorem dX6_init_1106 : decode cX6_init 1106 = .ok (.sipush 2000, 3) := by decide +kernel
theorem dX6_init_1109 : decode cX6_init 1109 = .ok (.newarray .int, 2) := by decide +kernel
theorem dX6_init_1111 : decode cX6_init 1111 = .ok (.putfield 77, 3) := by decide +kernel
theorem dX6_init_1114 : decode cX6_init 1114 = .ok (.aload_n 0, 1) := by decide +kernel
theorem dX6_init_1115 : decode cX6_init 1115 = .ok (.bipush 40, 2) := by decide +kernel
theorem dX6_init_1117 : decode cX6_init 1117 = .ok (.newarray .int, 2) := by decide +kernel
theorem dX6_init_1119 : decode cX6_init 1119 = .ok (.putfield 80, 3) := by decide +kernel
theorem dX6_init_1122 : decode cX6_init 1122 = .ok (.aload_n 0, 1) := by decide +kernel
theorem dX6_init_1123 : decode cX6_init 1123 = .ok (.iconst (-1), 1) := by decide +kernel
theorem dX6_init_1124 : decode cX6_init 1124 = .ok (.putfield 83, 3) := by decide +kernel
theorem dX6_init_1127 : decode cX6_init 1127 = .ok (.aload_n 0, 1) := by decide +kernel
theorem dX6_init_1128 : decode cX6_init 1128 = .ok (.bipush 15, 2) := by decide +kernel
theorem dX6_init_1130 : decode cX6_init 1130 = .ok (.newarray .int, 2) := by decide +kernel
theorem dX6_init_1132 : decode cX6_init 1132 = .ok (.putfield 86, 3) := by decide +kernel
theorem dX6_init_1135 : decode cX6_init 1135 = .ok (.aload_n 0, 1) := by decide +kernel
theorem dX6_init_1136 : decode cX6_init 1136 = .ok (.sipush 420, 3) := by decide +kernel
theorem dX6_init_1139 : decode cX6_init 1139 = .ok (.newarray .int, 2) := by decide +kernel
theorem dX6_init_1141 : decode cX6_init 1141 = .ok (.putfield 89, 3) := by decide +kernel
theorem dX6_init_1144 : decode cX6_init 1144 = .ok (.aload_n 0, 1) := by decide +kernel
theorem dX6_init_1145 : decode cX6_init 1145 = .ok (.bipush 10, 2) := by decide +kernel
theorem dX6_init_1147 : decode cX6_init 1147 = .ok (.newarray .int, 2) := by decide +kernel
theorem dX6_init_1149 : decode cX6_init 1149 = .ok (.putfield 92, 3) := by decide +kernel
theorem dX6_init_1152 : decode cX6_init 1152 = .ok (.aload_n 0, 1) := by decide +kernel
theorem dX6_init_1153 : decode cX6_init 1153 = .ok (.bipush 10, 2) := by decide +kernel
theorem dX6_init_1155 : decode cX6_init 1155 = .ok (.newarray .boolean, 2) := by decide +kernel
theorem dX6_init_1157 : decode cX6_init 1157 = .ok (.putfield 95, 3) := by decide +kernel
theorem dX6_init_1160 : decode cX6_init 1160 = .ok (.aload_n 0, 1) := by decide +kernel
theorem dX6_init_1161 : decode cX6_init 1161 = .ok (.bipush 10, 2) := by decide +kernel
theorem dX6_init_1163 : decode cX6_init 1163 = .ok (.newarray .int, 2) := by decide +kernel
theorem dX6_init_1165 : decode cX6_init 1165 = .ok (.putfield 99, 3) := by decide +kernel
theorem dX6_init_1168 : decode cX6_init 1168 = .ok (.aload_n 0, 1) := by decide +kernel
theorem dX6_init_1169 : decode cX6_init 1169 = .ok (.bipush 61, 2) := by decide +kernel
theorem dX6_init_1171 : decode cX6_init 1171 = .ok (.newarray .long, 2) := by decide +kernel
theorem dX6_init_1173 : decode cX6_init 1173 = .ok (.putfield 102, 3) := by decide +kernel
theorem dX6_init_1176 : decode cX6_init 1176 = .ok (.aload_n 0, 1) := by decide +kernel
theorem dX6_init_1177 : decode cX6_init 1177 = .ok (.bipush 61, 2) := by decide +kernel
theorem dX6_init_1179 : decode cX6_init 1179 = .ok (.newarray .long, 2) := by decide +kernel
theorem dX6_init_1181 : decode cX6_init 1181 = .ok (.putfield 106, 3) := by decide +kernel
theorem dX6_init_1184 : decode cX6_init 1184 = .ok (.aload_n 0, 1) := by decide +kernel
theorem dX6_init_1185 : decode cX6_init 1185 = .ok (.bipush 61, 2) := by decide +kernel
theorem dX6_init_1187 : decode cX6_init 1187 = .ok (.newarray .int, 2) := by decide +kernel
theorem dX6_init_1189 : decode cX6_init 1189 = .ok (.putfield 109, 3) := by decide +kernel
theorem dX6_init_1192 : decode cX6_init 1192 = .ok (.aload_n 0, 1) := by decide +kernel
theorem dX6_init_1193 : decode cX6_init 1193 = .ok (.sipush 160, 3) := by decide +kernel
theorem dX6_init_1196 : decode cX6_init 1196 = .ok (.newarray .int, 2) := by decide +kernel
theorem dX6_init_1198 : decode cX6_init 1198 = .ok (.putfield 112, 3) := by decide +kernel
theorem dX6_init_1201 : decode cX6_init 1201 = .ok (.aload_n 0, 1) := by decide +kernel
theorem dX6_init_1202 : decode cX6_init 1202 = .ok (.sipush 160, 3) := by decide +kernel
theorem dX6_init_1205 : decode cX6_init 1205 = .ok (.newarray .int, 2) := by decide +kernel
theorem dX6_init_1207 : decode cX6_init 1207 = .ok (.putfield 115, 3) := by decide +kernel
theorem dX6_init_1210 : decode cX6_init 1210 = .ok (.aload_n 0, 1) := by decide +kernel
theorem dX6_init_1211 : decode cX6_init 1211 = .ok (.sipush 3400, 3) := by decide +kernel
theorem dX6_init_1214 : decode cX6_init 1214 = .ok (.newarray .int, 2) := by decide +kernel
theorem dX6_init_1216 : decode cX6_init 1216 = .ok (.putfield 118, 3) := by decide +kernel
theorem dX6_init_1219 : decode cX6_init 1219 = .ok (.return_, 1) := by decide +kernel
theorem dX6_isIn_0 : decode cX6_isIn 0 = .ok (.iload_n 1, 1) := by decide +kernel
theorem dX6_isIn_1 : decode cX6_isIn 1 = .ok (.iload_n 2, 1) := by decide +kernel
theorem dX6_isIn_2 : decode cX6_isIn 2 = .ok (.if_icmp .lt 12, 3) := by decide +kernel
theorem dX6_isIn_5 : decode cX6_isIn 5 = .ok (.iload_n 1, 1) := by decide +kernel
theorem dX6_isIn_6 : decode cX6_isIn 6 = .ok (.iload_n 3, 1) := by decide +kernel
theorem dX6_isIn_7 : decode cX6_isIn 7 = .ok (.if_icmp .gt 7, 3) := by decide +kernel
theorem dX6_isIn_10 : decode cX6_isIn 10 = .ok (.iconst 1, 1) := by decide +kernel
theorem dX6_isIn_11 : decode cX6_isIn 11 = .ok (.goto 4, 3) := by decide +kernel
theorem dX6_isIn_14 : decode cX6_isIn 14 = .ok (.iconst 0, 1) := by decide +kernel
theorem dX6_isIn_15 : decode cX6_isIn 15 = .ok (.ireturn, 1) := by decide +kernel
theorem dX6_less_0 : decode cX6_less 0 = .ok (.iload_n 1, 1) := by decide +kernel
theorem dX6_less_1 : decode cX6_less 1 = .ok (.iload_n 2, 1) := by decide +kernel
theorem dX6_less_2 : decode cX6_less 2 = .ok (.if_icmp .ge 7, 3) := by decide +kernel
theorem dX6_less_5 : decode cX6_less 5 = .ok (.iload_n 1, 1) := by decide +kernel
theorem dX6_less_6 : decode cX6_less 6 = .ok (.goto 4, 3) := by decide +kernel
theorem dX6_less_9 : decode cX6_less 9 = .ok (.iload_n 2, 1) := by decide +kernel
theorem dX6_less_10 : decode cX6_less 10 = .ok (.ireturn, 1) := by decide +kernel
theorem dX6_size_0 : decode cX6_size 0 = .ok (.iload_n 1, 1) := by decide +kernel
theorem dX6_size_1 : decode cX6_size 1 = .ok (.ifCond .ge 8, 3) := by decide +kernel
theorem dX6_size_4 : decode cX6_size 4 = .ok (.iload_n 1, 1) := by decide +kernel
theorem dX6_size_5 : decode cX6_size 5 = .ok (.ineg, 1) := by decide +kernel
theorem dX6_size_6 : decode cX6_size 6 = .ok (.goto 4, 3) := by decide +kernel
theorem dX6_size_9 : decode cX6_size 9 = .ok (.iload_n 1, 1) := by decide +kernel
theorem dX6_size_10 : decode cX6_size 10 = .ok (.ireturn, 1) := by decide +kernel
theorem dX6_ones_0 : decode cX6_ones 0 = .ok (.iconst 0, 1) := by decide +kernel
theorem dX6_ones_1 : decode cX6_ones 1 = .ok (.istore_n 2, 1) := by decide +kernel
theorem dX6_ones_2 : decode cX6_ones 2 = .ok (.iload_n 1, 1) := by decide +kernel
theorem dX6_ones_3 : decode cX6_ones 3 = .ok (.istore_n 3, 1) := by decide +kernel
theorem dX6_ones_4 : decode cX6_ones 4 = .ok (.iload_n 3, 1) := by decide +kernel
theorem dX6_ones_5 : decode cX6_ones 5 = .ok (.ifCond .eq 16, 3) := by decide +kernel
theorem dX6_ones_8 : decode cX6_ones 8 = .ok (.iload_n 2, 1) := by decide +kernel
theorem dX6_ones_9 : decode cX6_ones 9 = .ok (.iconst 1, 1) := by decide +kernel
theorem dX6_ones_10 : decode cX6_ones 10 = .ok (.iadd, 1) := by decide +kernel
theorem dX6_ones_11 : decode cX6_ones 11 = .ok (.istore_n 2, 1) := by decide +kernel
theorem dX6_ones_12 : decode cX6_ones 12 = .ok (.iload_n 3, 1) := by decide +kernel
theorem dX6_ones_13 : decode cX6_ones 13 = .ok (.iload_n 3, 1) := by decide +kernel
theorem dX6_ones_14 : decode cX6_ones 14 = .ok (.iconst 1, 1) := by decide +kernel
theorem dX6_ones_15 : decode cX6_ones 15 = .ok (.isub, 1) := by decide +kernel
theorem dX6_ones_16 : decode cX6_ones 16 = .ok (.iand, 1) := by decide +kernel
theorem dX6_ones_17 : decode cX6_ones 17 = .ok (.istore_n 3, 1) := by decide +kernel
theorem dX6_ones_18 : decode cX6_ones 18 = .ok (.goto (-14), 3) := by decide +kernel
theorem dX6_ones_21 : decode cX6_ones 21 = .ok (.iload_n 2, 1) := by decide +kernel
theorem dX6_ones_22 : decode cX6_ones 22 = .ok (.ireturn, 1) := by decide +kernel
theorem dX6_state_0 : decode cX6_state 0 = .ok (.aload_n 0, 1) := by decide +kernel
theorem dX6_state_1 : decode cX6_state 1 = .ok (.iconst 0, 1) := by decide +kernel
theorem dX6_state_2 : decode cX6_state 2 = .ok (.putfield 121, 3) := by decide +kernel
theorem dX6_state_5 : decode cX6_state 5 = .ok (.aload_n 0, 1) := by decide +kernel
theorem dX6_state_6 : decode cX6_state 6 = .ok (.getfield 124, 3) := by decide +kernel
theorem dX6_state_9 : decode cX6_state 9 = .ok (.istore_n 2, 1) := by decide +kernel
theorem dX6_state_10 : decode cX6_state 10 = .ok (.aload_n 0, 1) := by decide +kernel
theorem dX6_state_11 : decode cX6_state 11 = .ok (.iload_n 1, 1) := by decide +kernel
theorem dX6_state_12 : decode cX6_state 12 = .ok (.putfield 124, 3) := by decide +kernel
theorem dX6_state_15 : decode cX6_state 15 = .ok (.iload_n 2, 1) := by decide +kernel
theorem dX6_state_16 : decode cX6_state 16 = .ok (.ireturn, 1) := by decide +kernel
theorem dX6_draw_0 : decode cX6_draw 0 = .ok (.aload_n 0, 1) := by decide +kernel
theorem dX6_draw_1 : decode cX6_draw 1 = .ok (.ldc 127, 2) := by decide +kernel
theorem dX6_draw_3 : decode cX6_draw 3 = .ok (.aload_n 0, 1) := by decide +kernel
theorem dX6_draw_4 : decode cX6_draw 4 = .ok (.getfield 124, 3) := by decide +kernel
theorem dX6_draw_7 : decode cX6_draw 7 = .ok (.imul, 1) := by decide +kernel
theorem dX6_draw_8 : decode cX6_draw 8 = .ok (.ldc 128, 2) := by decide +kernel
theorem dX6_draw_10 : decode cX6_draw 10 = .ok (.iadd, 1) := by decide +kernel
theorem dX6_draw_11 : decode cX6_draw 11 = .ok (.putfield 124, 3) := by decide +kernel
theorem dX6_draw_14 : decode cX6_draw 14 = .ok (.aload_n 0, 1) := by decide +kernel
theorem dX6_draw_15 : decode cX6_draw 15 = .ok (.getfield 124, 3) := by decide +kernel
theorem dX6_draw_18 : decode cX6_draw 18 = .ok (.bipush 8, 2) := by decide +kernel
theorem dX6_draw_20 : decode cX6_draw 20 = .ok (.iushr, 1) := by decide +kernel
theorem dX6_draw_21 : decode cX6_draw 21 = .ok (.iload_n 1, 1) := by decide +kernel
theorem dX6_draw_22 : decode cX6_draw 22 = .ok (.irem, 1) := by decide +kernel
theorem dX6_draw_23 : decode cX6_draw 23 = .ok (.ireturn, 1) := by decide +kernel
theorem dX6_isFarm_0 : decode cX6_isFarm 0 = .ok (.iload_n 1, 1) := by decide +kernel
theorem dX6_isFarm_1 : decode cX6_isFarm 1 = .ok (.ifCond .lt 15, 3) := by decide +kernel
theorem dX6_isFarm_4 : decode cX6_isFarm 4 = .ok (.iload_n 1, 1) := by decide +kernel
theorem dX6_isFarm_5 : decode cX6_isFarm 5 = .ok (.aload_n 0, 1) := by decide +kernel
theorem dX6_isFarm_6 : decode cX6_isFarm 6 = .ok (.getfield 7, 3) := by decide +kernel
theorem dX6_isFarm_9 : decode cX6_isFarm 9 = .ok (.if_icmp .ge 7, 3) := by decide +kernel
theorem dX6_isFarm_12 : decode cX6_isFarm 12 = .ok (.iconst 1, 1) := by decide +kernel
theorem dX6_isFarm_13 : decode cX6_isFarm 13 = .ok (.goto 4, 3) := by decide +kernel
theorem dX6_isFarm_16 : decode cX6_isFarm 16 = .ok (.iconst 0, 1) := by decide +kernel
theorem dX6_isFarm_17 : decode cX6_isFarm 17 = .ok (.ireturn, 1) := by decide +kernel
set_option maxRecDepth 20000 in
theorem ggX6_ring_X6_isIn : GoodIn wsX6_ring wsX6_isIn := goodIn_r _ [20] rfl (by decide +kernel)
set_option maxRecDepth 20000 in
theorem gX6_ring_X6_isIn : GoodIn wsX6_ring (wsV RX6 129 RX6 yX6_isIn wsX6_isIn) := goodIn_app (goodIn_of _ (by decide +kernel)) ggX6_ring_X6_isIn
theorem dX6_ring_0 : decode cX6_ring 0 = .ok (.aload_n 0, 1) := by decide +kernel
theorem dX6_ring_1 : decode cX6_ring 1 = .ok (.iconst 0, 1) := by decide +kernel
theorem dX6_ring_2 : decode cX6_ring 2 = .ok (.putfield 121, 3) := by decide +kernel
theorem dX6_ring_5 : decode cX6_ring 5 = .ok (.aload_n 0, 1) := by decide +kernel
theorem dX6_ring_6 : decode cX6_ring 6 = .ok (.iload_n 1, 1) := by decide +kernel
theorem dX6_ring_7 : decode cX6_ring 7 = .ok (.iconst 2, 1) := by decide +kernel
theorem dX6_ring_8 : decode cX6_ring 8 = .ok (.bipush 10, 2) := by decide +kernel
theorem dX6_ring_10 : decode cX6_ring 10 = .ok (.invokevirtual 129, 3) := by decide +kernel
theorem dX6_ring_13 : decode cX6_ring 13 = .ok (.ifCond .ne 5, 3) := by decide +kernel
theorem dX6_ring_16 : decode cX6_ring 16 = .ok (.iconst 0, 1) := by decide +kernel
theorem dX6_ring_17 : decode cX6_ring 17 = .ok (.ireturn, 1) := by decide +kernel
theorem dX6_ring_18 : decode cX6_ring 18 = .ok (.aload_n 0, 1) := by decide +kernel
theorem dX6_ring_19 : decode cX6_ring 19 = .ok (.iload_n 1, 1) := by decide +kernel
theorem dX6_ring_20 : decode cX6_ring 20 = .ok (.putfield 7, 3) := by decide +kernel
theorem dX6_ring_23 : decode cX6_ring 23 = .ok (.iconst 0, 1) := by decide +kernel
theorem dX6_ring_24 : decode cX6_ring 24 = .ok (.istore_n 2, 1) := by decide +kernel
theorem dX6_ring_25 : decode cX6_ring 25 = .ok (.iload_n 2, 1) := by decide +kernel
theorem dX6_ring_26 : decode cX6_ring 26 = .ok (.bipush 10, 2) := by decide +kernel
theorem dX6_ring_28 : decode cX6_ring 28 = .ok (.if_icmp .ge 102, 3) := by decide +kernel
theorem dX6_ring_31 : decode cX6_ring 31 = .ok (.aload_n 0, 1) := by decide +kernel
theorem dX6_ring_32 : decode cX6_ring 32 = .ok (.getfield 13, 3) := by decide +kernel
theorem dX6_ring_35 : decode cX6_ring 35 = .ok (.iload_n 2, 1) := by decide +kernel
theorem dX6_ring_36 : decode cX6_ring 36 = .ok (.bipush 10, 2) := by decide +kernel
theorem dX6_ring_38 : decode cX6_ring 38 = .ok (.iastore, 1) := by decide +kernel
theorem dX6_ring_39 : decode cX6_ring 39 = .ok (.aload_n 0, 1) := by decide +kernel
theorem dX6_ring_40 : decode cX6_ring 40 = .ok (.getfield 17, 3) := by decide +kernel
theorem dX6_ring_43 : decode cX6_ring 43 = .ok (.iload_n 2, 1) := by decide +kernel
theorem dX6_ring_44 : decode cX6_ring 44 = .ok (.iconst 0, 1) := by decide +kernel
theorem dX6_ring_45 : decode cX6_ring 45 = .ok (.iastore, 1) := by decide +kernel
theorem dX6_ring_46 : decode cX6_ring 46 = .ok (.aload_n 0, 1) := by decide +kernel
theorem dX6_ring_47 : decode cX6_ring 47 = .ok (.getfield 20, 3) := by decide +kernel
theorem dX6_ring_50 : decode cX6_ring 50 = .ok (.iload_n 2, 1) := by decide +kernel
theorem dX6_ring_51 : decode cX6_ring 51 = .ok (.iload_n 2, 1) := by decide +kernel
theorem dX6_ring_52 : decode cX6_ring 52 = .ok (.iastore, 1) := by decide +kernel
theorem dX6_ring_53 : decode cX6_ring 53 = .ok (.aload_n 0, 1) := by decide +kernel
theorem dX6_ring_54 : decode cX6_ring 54 = .ok (.getfield 23, 3) := by decide +kernel
theorem dX6_ring_57 : decode cX6_ring 57 = .ok (.iload_n 2, 1) := by decide +kernel
theorem dX6_ring_58 : decode cX6_ring 58 = .ok (.iconst 0, 1) := by decide +kernel
theorem dX6_ring_59 : decode cX6_ring 59 = .ok (.iastore, 1) := by decide +kernel
theorem dX6_ring_60 : decode cX6_ring 60 = .ok (.aload_n 0, 1) := by decide +kernel
theorem dX6_ring_61 : decode cX6_ring 61 = .ok (.getfield 26, 3) := by decide +kernel
theorem dX6_ring_64 : decode cX6_ring 64 = .ok (.iload_n 2, 1) := by decide +kernel
theorem dX6_ring_65 : decode cX6_ring 65 = .ok (.iconst 0, 1) := by decide +kernel
theorem dX6_ring_66 : decode cX6_ring 66 = .ok (.iastore, 1) := by decide +kernel
theorem dX6_ring_67 : decode cX6_ring 67 = .ok (.aload_n 0, 1) := by decide +kernel
theorem dX6_ring_68 : decode cX6_ring 68 = .ok (.getfield 29, 3) := by decide +kernel
theorem dX6_ring_71 : decode cX6_ring 71 = .ok (.iload_n 2, 1) := by decide +kernel
theorem dX6_ring_72 : decode cX6_ring 72 = .ok (.bipush 99, 2) := by decide +kernel
theorem dX6_ring_74 : decode cX6_ring 74 = .ok (.iastore, 1) := by decide +kernel
theorem dX6_ring_75 : decode cX6_ring 75 = .ok (.aload_n 0, 1) := by decide +kernel
theorem dX6_ring_76 : decode cX6_ring 76 = .ok (.getfield 32, 3) := by decide +kernel
theorem dX6_ring_79 : decode cX6_ring 79 = .ok (.iload_n 2, 1) := by decide +kernel
theorem dX6_ring_80 : decode cX6_ring 80 = .ok (.iconst 0, 1) := by decide +kernel
theorem dX6_ring_81 : decode cX6_ring 81 = .ok (.iastore, 1) := by decide +kernel
theorem dX6_ring_82 : decode cX6_ring 82 = .ok (.aload_n 0, 1) := by decide +kernel
theorem dX6_ring_83 : decode cX6_ring 83 = .ok (.getfield 35, 3) := by decide +kernel
theorem dX6_ring_86 : decode cX6_ring 86 = .ok (.iload_n 2, 1) := by decide +kernel
theorem dX6_ring_87 : decode cX6_ring 87 = .ok (.iconst (-1), 1) := by decide +kernel
theorem dX6_ring_88 : decode cX6_ring 88 = .ok (.iastore, 1) := by decide +kernel
theorem dX6_ring_89 : decode cX6_ring 89 = .ok (.aload_n 0, 1) := by decide +kernel
theorem dX6_ring_90 : decode cX6_ring 90 = .ok (.getfield 38, 3) := by decide +kernel
theorem dX6_ring_93 : decode cX6_ring 93 = .ok (.iload_n 2, 1) := by decide +kernel
theorem dX6_ring_94 : decode cX6_ring 94 = .ok (.iconst 0, 1) := by decide +kernel
theorem dX6_ring_95 : decode cX6_ring 95 = .ok (.iastore, 1) := by decide +kernel
theorem dX6_ring_96 : decode cX6_ring 96 = .ok (.aload_n 0, 1) := by decide +kernel
theorem dX6_ring_97 : decode cX6_ring 97 = .ok (.getfield 41, 3) := by decide +kernel
theorem dX6_ring_100 : decode cX6_ring 100 = .ok (.iload_n 2, 1) := by decide +kernel
theorem dX6_ring_101 : decode cX6_ring 101 = .ok (.iconst 0, 1) := by decide +kernel
theorem dX6_ring_102 : decode cX6_ring 102 = .ok (.iastore, 1) := by decide +kernel
theorem dX6_ring_103 : decode cX6_ring 103 = .ok (.aload_n 0, 1) := by decide +kernel
theorem dX6_ring_104 : decode cX6_ring 104 = .ok (.getfield 44, 3) := by decide +kernel
theorem dX6_ring_107 : decode cX6_ring 107 = .ok (.iload_n 2, 1) := by decide +kernel
theorem dX6_ring_108 : decode cX6_ring 108 = .ok (.iconst 0, 1) := by decide +kernel
theorem dX6_ring_109 : decode cX6_ring 109 = .ok (.iastore, 1) := by decide +kernel
theorem dX6_ring_110 : decode cX6_ring 110 = .ok (.aload_n 0, 1) := by decide +kernel
theorem dX6_ring_111 : decode cX6_ring 111 = .ok (.getfield 47, 3) := by decide +kernel
theorem dX6_ring_114 : decode cX6_ring 114 = .ok (.iload_n 2, 1) := by decide +kernel
theorem dX6_ring_115 : decode cX6_ring 115 = .ok (.iconst (-1), 1) := by decide +kernel
theorem dX6_ring_116 : decode cX6_ring 116 = .ok (.iastore, 1) := by decide +kernel
theorem dX6_ring_117 : decode cX6_ring 117 = .ok (.aload_n 0, 1) := by decide +kernel
theorem dX6_ring_118 : decode cX6_ring 118 = .ok (.getfield 50, 3) := by decide +kernel
theorem dX6_ring_121 : decode cX6_ring 121 = .ok (.iload_n 2, 1) := by decide +kernel
theorem dX6_ring_122 : decode cX6_ring 122 = .ok (.iconst (-1), 1) := by decide +kernel
theorem dX6_ring_123 : decode cX6_ring 123 = .ok (.iastore, 1) := by decide +kernel
theorem dX6_ring_124 : decode cX6_ring 124 = .ok (.iinc 2 1, 3) := by decide +kernel
theorem dX6_ring_127 : decode cX6_ring 127 = .ok (.goto (-102), 3) := by decide +kernel
theorem dX6_ring_130 : decode cX6_ring 130 = .ok (.iconst 1, 1) := by decide +kernel
theorem dX6_ring_131 : decode cX6_ring 131 = .ok (.ireturn, 1) := by decide +kernel
set_option maxRecDepth 20000 in
theorem ggX6_farm_X6_isFarm : GoodIn wsX6_farm wsX6_isFarm := goodIn_r _ [10, 11, 16, 17, 18, 19, 20, 21, 22, 23, 24, 25, 26, 27, 28, 29, 30, 31, 32, 33, 34, 35, 36, 37, 38, 39, 40, 41, 42, 43, 44, 45, 46, 47, 48, 49, 50, 51, 52, 53, 54, 55, 56, 57, 58, 59, 60, 61, 62, 63, 64, 65, 66, 67, 68, 69, 70] rfl (by decide +kernel)
set_option maxRecDepth 20000 in
theorem gX6_farm_X6_isFarm : GoodIn wsX6_farm (wsV RX6 133 RX6 yX6_isFarm wsX6_isFarm) := goodIn_app (goodIn_of _ (by decide +kernel)) ggX6_farm_X6_isFarm
set_option maxRecDepth 20000 in
theorem ggX6_farm_X6_isIn : GoodIn wsX6_farm wsX6_isIn := goodIn_r _ [15] rfl (by decide +kernel)
set_option maxRecDepth 20000 in
theorem gX6_farm_X6_isIn : GoodIn wsX6_farm (wsV RX6 129 RX6 yX6_isIn wsX6_isIn) := goodIn_app (goodIn_of _ (by decide +kernel)) ggX6_farm_X6_isIn
theorem dX6_farm_0 : decode cX6_farm 0 = .ok (.aload_n 0, 1) := by decide +kernel
theorem dX6_farm_1 : decode cX6_farm 1 = .ok (.iconst 0, 1) := by decide +kernel
theorem dX6_farm_2 : decode cX6_farm 2 = .ok (.putfield 121, 3) := by decide +kernel
theorem dX6_farm_5 : decode cX6_farm 5 = .ok (.iload_n 2, 1) := by decide +kernel
theorem dX6_farm_6 : decode cX6_farm 6 = .ok (.ifCond .ne 8, 3) := by decide +kernel
theorem dX6_farm_9 : decode cX6_farm 9 = .ok (.bipush 60, 2) := by decide +kernel
theorem dX6_farm_11 : decode cX6_farm 11 = .ok (.goto 23, 3) := by decide +kernel
theorem dX6_farm_14 : decode cX6_farm 14 = .ok (.iload_n 2, 1) := by decide +kernel
theorem dX6_farm_15 : decode cX6_farm 15 = .ok (.iconst 1, 1) := by decide +kernel
theorem dX6_farm_16 : decode cX6_farm 16 = .ok (.if_icmp .ne 7, 3) := by decide +kernel
theorem dX6_farm_19 : decode cX6_farm 19 = .ok (.iconst 3, 1) := by decide +kernel
theorem dX6_farm_20 : decode cX6_farm 20 = .ok (.goto 14, 3) := by decide +kernel
theorem dX6_farm_23 : decode cX6_farm 23 = .ok (.iload_n 2, 1) := by decide +kernel
theorem dX6_farm_24 : decode cX6_farm 24 = .ok (.iconst 2, 1) := by decide +kernel
theorem dX6_farm_25 : decode cX6_farm 25 = .ok (.if_icmp .ne 8, 3) := by decide +kernel
theorem dX6_farm_28 : decode cX6_farm 28 = .ok (.bipush 9, 2) := by decide +kernel
theorem dX6_farm_30 : decode cX6_farm 30 = .ok (.goto 4, 3) := by decide +kernel
theorem dX6_farm_33 : decode cX6_farm 33 = .ok (.iconst 1, 1) := by decide +kernel
theorem dX6_farm_34 : decode cX6_farm 34 = .ok (.istore 4, 2) := by decide +kernel
theorem dX6_farm_36 : decode cX6_farm 36 = .ok (.aload_n 0, 1) := by decide +kernel
theorem dX6_farm_37 : decode cX6_farm 37 = .ok (.iload_n 1, 1) := by decide +kernel
theorem dX6_farm_38 : decode cX6_farm 38 = .ok (.invokevirtual 133, 3) := by decide +kernel
theorem dX6_farm_41 : decode cX6_farm 41 = .ok (.ifCond .eq 24, 3) := by decide +kernel
theorem dX6_farm_44 : decode cX6_farm 44 = .ok (.aload_n 0, 1) := by decide +kernel
theorem dX6_farm_45 : decode cX6_farm 45 = .ok (.iload_n 2, 1) := by decide +kernel
theorem dX6_farm_46 : decode cX6_farm 46 = .ok (.iconst 0, 1) := by decide +kernel
theorem dX6_farm_47 : decode cX6_farm 47 = .ok (.iconst 3, 1) := by decide +kernel
theorem dX6_farm_48 : decode cX6_farm 48 = .ok (.invokevirtual 129, 3) := by decide +kernel
theorem dX6_farm_51 : decode cX6_farm 51 = .ok (.ifCond .eq 14, 3) := by decide +kernel
theorem dX6_farm_54 : decode cX6_farm 54 = .ok (.aload_n 0, 1) := by decide +kernel
theorem dX6_farm_55 : decode cX6_farm 55 = .ok (.iload_n 3, 1) := by decide +kernel
theorem dX6_farm_56 : decode cX6_farm 56 = .ok (.iconst 0, 1) := by decide +kernel
theorem dX6_farm_57 : decode cX6_farm 57 = .ok (.iload 4, 2) := by decide +kernel
theorem dX6_farm_59 : decode cX6_farm 59 = .ok (.invokevirtual 129, 3) := by decide +kernel
theorem dX6_farm_62 : decode cX6_farm 62 = .ok (.ifCond .ne 5, 3) := by decide +kernel
theorem dX6_farm_65 : decode cX6_farm 65 = .ok (.iconst 0, 1) := by decide +kernel
theorem dX6_farm_66 : decode cX6_farm 66 = .ok (.ireturn, 1) := by decide +kernel
theorem dX6_farm_67 : decode cX6_farm 67 = .ok (.iload_n 2, 1) := by decide +kernel
theorem dX6_farm_68 : decode cX6_farm 68 = .ok (.ifCond .ne 10, 3) := by decide +kernel
theorem dX6_farm_71 : decode cX6_farm 71 = .ok (.aload_n 0, 1) := by decide +kernel
theorem dX6_farm_72 : decode cX6_farm 72 = .ok (.getfield 13, 3) := by decide +kernel
theorem dX6_farm_75 : decode cX6_farm 75 = .ok (.iload_n 1, 1) := by decide +kernel
theorem dX6_farm_76 : decode cX6_farm 76 = .ok (.iload_n 3, 1) := by decide +kernel
theorem dX6_farm_77 : decode cX6_farm 77 = .ok (.iastore, 1) := by decide +kernel
theorem dX6_farm_78 : decode cX6_farm 78 = .ok (.iload_n 2, 1) := by decide +kernel
theorem dX6_farm_79 : decode cX6_farm 79 = .ok (.iconst 1, 1) := by decide +kernel
theorem dX6_farm_80 : decode cX6_farm 80 = .ok (.if_icmp .ne 10, 3) := by decide +kernel
theorem dX6_farm_83 : decode cX6_farm 83 = .ok (.aload_n 0, 1) := by decide +kernel
theorem dX6_farm_84 : decode cX6_farm 84 = .ok (.getfield 17, 3) := by decide +kernel
theorem dX6_farm_87 : decode cX6_farm 87 = .ok (.iload_n 1, 1) := by decide +kernel
theorem dX6_farm_88 : decode cX6_farm 88 = .ok (.iload_n 3, 1) := by decide +kernel
theorem dX6_farm_89 : decode cX6_farm 89 = .ok (.iastore, 1) := by decide +kernel
theorem dX6_farm_90 : decode cX6_farm 90 = .ok (.iload_n 2, 1) := by decide +kernel
theorem dX6_farm_91 : decode cX6_farm 91 = .ok (.iconst 2, 1) := by decide +kernel
theorem dX6_farm_92 : decode cX6_farm 92 = .ok (.if_icmp .ne 10, 3) := by decide +kernel
theorem dX6_farm_95 : decode cX6_farm 95 = .ok (.aload_n 0, 1) := by decide +kernel
theorem dX6_farm_96 : decode cX6_farm 96 = .ok (.getfield 20, 3) := by decide +kernel
theorem dX6_farm_99 : decode cX6_farm 99 = .ok (.iload_n 1, 1) := by decide +kernel
theorem dX6_farm_100 : decode cX6_farm 100 = .ok (.iload_n 3, 1) := by decide +kernel
theorem dX6_farm_101 : decode cX6_farm 101 = .ok (.iastore, 1) := by decide +kernel
theorem dX6_farm_102 : decode cX6_farm 102 = .ok (.iload_n 2, 1) := by decide +kernel
theorem dX6_farm_103 : decode cX6_farm 103 = .ok (.iconst 3, 1) := by decide +kernel
theorem dX6_farm_104 : decode cX6_farm 104 = .ok (.if_icmp .ne 10, 3) := by decide +kernel
theorem dX6_farm_107 : decode cX6_farm 107 = .ok (.aload_n 0, 1) := by decide +kernel
theorem dX6_farm_108 : decode cX6_farm 108 = .ok (.getfield 23, 3) := by decide +kernel
theorem dX6_farm_111 : decode cX6_farm 111 = .ok (.iload_n 1, 1) := by decide +kernel
theorem dX6_farm_112 : decode cX6_farm 112 = .ok (.iload_n 3, 1) := by decide +kernel
theorem dX6_farm_113 : decode cX6_farm 113 = .ok (.iastore, 1) := by decide +kernel
theorem dX6_farm_114 : decode cX6_farm 114 = .ok (.iconst 1, 1) := by decide +kernel
theorem dX6_farm_115 : decode cX6_farm 115 = .ok (.ireturn, 1) := by decide +kernel
set_option maxRecDepth 20000 in
theorem ggX6_border_X6_isFarm : GoodIn wsX6_border wsX6_isFarm := goodIn_r _ [9, 10, 15, 16, 17, 18, 19, 20, 21, 22, 23, 24, 25, 26, 27, 28, 29, 30, 31, 32, 33, 34, 35, 36, 37, 38, 39, 40, 41, 42, 43, 44, 45, 46, 47, 48, 49, 50, 51, 52, 53, 54, 55, 56, 57, 58, 59, 60, 61, 62, 63, 64, 65, 66, 67, 68, 69] rfl (by decide +kernel)
set_option maxRecDepth 20000 in
theorem gX6_border_X6_isFarm : GoodIn wsX6_border (wsV RX6 133 RX6 yX6_isFarm wsX6_isFarm) := goodIn_app (goodIn_of _ (by decide +kernel)) ggX6_border_X6_isFarm
set_option maxRecDepth 20000 in
theorem ggX6_border_X6_isIn : GoodIn wsX6_border wsX6_isIn := goodIn_r _ [14] rfl (by decide +kernel)
set_option maxRecDepth 20000 in
theorem gX6_border_X6_isIn : GoodIn wsX6_border (wsV RX6 129 RX6 yX6_isIn wsX6_isIn) := goodIn_app (goodIn_of _ (by decide +kernel)) ggX6_border_X6_isIn
theorem dX6_border_0 : decode cX6_border 0 = .ok (.aload_n 0, 1) := by decide +kernel
theorem dX6_border_1 : decode cX6_border 1 = .ok (.iconst 0, 1) := by decide +kernel
theorem dX6_border_2 : decode cX6_border 2 = .ok (.putfield 121, 3) := by decide +kernel
theorem dX6_border_5 : decode cX6_border 5 = .ok (.aload_n 0, 1) := by decide +kernel
theorem dX6_border_6 : decode cX6_border 6 = .ok (.iload_n 1, 1) := by decide +kernel
theorem dX6_border_7 : decode cX6_border 7 = .ok (.invokevirtual 133, 3) := by decide +kernel
theorem dX6_border_10 : decode cX6_border 10 = .ok (.ifCond .eq 31, 3) := by decide +kernel
theorem dX6_border_13 : decode cX6_border 13 = .ok (.aload_n 0, 1) := by decide +kernel
theorem dX6_border_14 : decode cX6_border 14 = .ok (.iload_n 2, 1) := by decide +kernel
theorem dX6_border_15 : decode cX6_border 15 = .ok (.iconst 0, 1) := by decide +kernel
theorem dX6_border_16 : decode cX6_border 16 = .ok (.iconst 1, 1) := by decide +kernel
theorem dX6_border_17 : decode cX6_border 17 = .ok (.invokevirtual 129, 3) := by decide +kernel
theorem dX6_border_20 : decode cX6_border 20 = .ok (.ifCond .eq 21, 3) := by decide +kernel
theorem dX6_border_23 : decode cX6_border 23 = .ok (.aload_n 0, 1) := by decide +kernel
theorem dX6_border_24 : decode cX6_border 24 = .ok (.iload_n 3, 1) := by decide +kernel
theorem dX6_border_25 : decode cX6_border 25 = .ok (.iconst 0, 1) := by decide +kernel
theorem dX6_border_26 : decode cX6_border 26 = .ok (.iload_n 2, 1) := by decide +kernel
theorem dX6_border_27 : decode cX6_border 27 = .ok (.ifCond .ne 7, 3) := by decide +kernel
theorem dX6_border_30 : decode cX6_border 30 = .ok (.iconst 1, 1) := by decide +kernel
theorem dX6_border_31 : decode cX6_border 31 = .ok (.goto 4, 3) := by decide +kernel
theorem dX6_border_34 : decode cX6_border 34 = .ok (.iconst 3, 1) := by decide +kernel
theorem dX6_border_35 : decode cX6_border 35 = .ok (.invokevirtual 129, 3) := by decide +kernel
theorem dX6_border_38 : decode cX6_border 38 = .ok (.ifCond .ne 5, 3) := by decide +kernel
theorem dX6_border_41 : decode cX6_border 41 = .ok (.iconst 0, 1) := by decide +kernel
theorem dX6_border_42 : decode cX6_border 42 = .ok (.ireturn, 1) := by decide +kernel
theorem dX6_border_43 : decode cX6_border 43 = .ok (.iload_n 2, 1) := by decide +kernel
theorem dX6_border_44 : decode cX6_border 44 = .ok (.ifCond .ne 13, 3) := by decide +kernel
theorem dX6_border_47 : decode cX6_border 47 = .ok (.aload_n 0, 1) := by decide +kernel
theorem dX6_border_48 : decode cX6_border 48 = .ok (.getfield 38, 3) := by decide +kernel
theorem dX6_border_51 : decode cX6_border 51 = .ok (.iload_n 1, 1) := by decide +kernel
theorem dX6_border_52 : decode cX6_border 52 = .ok (.iload_n 3, 1) := by decide +kernel
theorem dX6_border_53 : decode cX6_border 53 = .ok (.iastore, 1) := by decide +kernel
theorem dX6_border_54 : decode cX6_border 54 = .ok (.goto 10, 3) := by decide +kernel
theorem dX6_border_57 : decode cX6_border 57 = .ok (.aload_n 0, 1) := by decide +kernel
theorem dX6_border_58 : decode cX6_border 58 = .ok (.getfield 41, 3) := by decide +kernel
theorem dX6_border_61 : decode cX6_border 61 = .ok (.iload_n 1, 1) := by decide +kernel
theorem dX6_border_62 : decode cX6_border 62 = .ok (.iload_n 3, 1) := by decide +kernel
theorem dX6_border_63 : decode cX6_border 63 = .ok (.iastore, 1) := by decide +kernel
theorem dX6_border_64 : decode cX6_border 64 = .ok (.aload_n 0, 1) := by decide +kernel
theorem dX6_border_65 : decode cX6_border 65 = .ok (.getfield 44, 3) := by decide +kernel
theorem dX6_border_68 : decode cX6_border 68 = .ok (.iload_n 1, 1) := by decide +kernel
theorem dX6_border_69 : decode cX6_border 69 = .ok (.iconst 0, 1) := by decide +kernel
theorem dX6_border_70 : decode cX6_border 70 = .ok (.iastore, 1) := by decide +kernel
theorem dX6_border_71 : decode cX6_border 71 = .ok (.iconst 1, 1) := by decide +kernel
theorem dX6_border_72 : decode cX6_border 72 = .ok (.ireturn, 1) := by decide +kernel
set_option maxRecDepth 20000 in
theorem ggX6_set_X6_isIn : GoodIn wsX6_set wsX6_isIn := goodIn_r _ [7] rfl (by decide +kernel)
set_option maxRecDepth 20000 in
theorem gX6_set_X6_isIn : GoodIn wsX6_set (wsV RX6 129 RX6 yX6_isIn wsX6_isIn) := goodIn_app (goodIn_of _ (by decide +kernel)) ggX6_set_X6_isIn
theorem dX6_set_0 : decode cX6_set 0 = .ok (.aload_n 0, 1) := by decide +kernel
theorem dX6_set_1 : decode cX6_set 1 = .ok (.iconst 0, 1) := by decide +kernel
theorem dX6_set_2 : decode cX6_set 2 = .ok (.putfield 121, 3) := by decide +kernel
theorem dX6_set_5 : decode cX6_set 5 = .ok (.iload_n 1, 1) := by decide +kernel
theorem dX6_set_6 : decode cX6_set 6 = .ok (.bipush 9, 2) := by decide +kernel
theorem dX6_set_8 : decode cX6_set 8 = .ok (.if_icmp .ne 7, 3) := by decide +kernel
theorem dX6_set_11 : decode cX6_set 11 = .ok (.iconst 5, 1) := by decide +kernel
theorem dX6_set_12 : decode cX6_set 12 = .ok (.goto 17, 3) := by decide +kernel
theorem dX6_set_15 : decode cX6_set 15 = .ok (.iload_n 1, 1) := by decide +kernel
theorem dX6_set_16 : decode cX6_set 16 = .ok (.bipush 7, 2) := by decide +kernel
theorem dX6_set_18 : decode cX6_set 18 = .ok (.if_icmp .lt 9, 3) := by decide +kernel
theorem dX6_set_21 : decode cX6_set 21 = .ok (.sipush 1000, 3) := by decide +kernel
theorem dX6_set_24 : decode cX6_set 24 = .ok (.goto 5, 3) := by decide +kernel
theorem dX6_set_27 : decode cX6_set 27 = .ok (.bipush 99, 2) := by decide +kernel
theorem dX6_set_29 : decode cX6_set 29 = .ok (.istore_n 3, 1) := by decide +kernel
theorem dX6_set_30 : decode cX6_set 30 = .ok (.aload_n 0, 1) := by decide +kernel
theorem dX6_set_31 : decode cX6_set 31 = .ok (.iload_n 1, 1) := by decide +kernel
theorem dX6_set_32 : decode cX6_set 32 = .ok (.iconst 0, 1) := by decide +kernel
theorem dX6_set_33 : decode cX6_set 33 = .ok (.bipush 9, 2) := by decide +kernel
theorem dX6_set_35 : decode cX6_set 35 = .ok (.invokevirtual 129, 3) := by decide +kernel
theorem dX6_set_38 : decode cX6_set 38 = .ok (.ifCond .eq 13, 3) := by decide +kernel
theorem dX6_set_41 : decode cX6_set 41 = .ok (.aload_n 0, 1) := by decide +kernel
theorem dX6_set_42 : decode cX6_set 42 = .ok (.iload_n 2, 1) := by decide +kernel
theorem dX6_set_43 : decode cX6_set 43 = .ok (.iconst 0, 1) := by decide +kernel
theorem dX6_set_44 : decode cX6_set 44 = .ok (.iload_n 3, 1) := by decide +kernel
theorem dX6_set_45 : decode cX6_set 45 = .ok (.invokevirtual 129, 3) := by decide +kernel
theorem dX6_set_48 : decode cX6_set 48 = .ok (.ifCond .ne 5, 3) := by decide +kernel
theorem dX6_set_51 : decode cX6_set 51 = .ok (.iconst 0, 1) := by decide +kernel
theorem dX6_set_52 : decode cX6_set 52 = .ok (.ireturn, 1) := by decide +kernel
theorem dX6_set_53 : decode cX6_set 53 = .ok (.aload_n 0, 1) := by decide +kernel
theorem dX6_set_54 : decode cX6_set 54 = .ok (.getfield 53, 3) := by decide +kernel
theorem dX6_set_57 : decode cX6_set 57 = .ok (.iload_n 1, 1) := by decide +kernel
theorem dX6_set_58 : decode cX6_set 58 = .ok (.iload_n 2, 1) := by decide +kernel
theorem dX6_set_59 : decode cX6_set 59 = .ok (.iastore, 1) := by decide +kernel
theorem dX6_set_60 : decode cX6_set 60 = .ok (.iconst 1, 1) := by decide +kernel
theorem dX6_set_61 : decode cX6_set 61 = .ok (.ireturn, 1) := by decide +kernel
set_option maxRecDepth 20000 in
theorem ggX6_worthOf_X6_less : GoodIn wsX6_worthOf wsX6_less := goodIn_r _ [6] rfl (by decide +kernel)
set_option maxRecDepth 20000 in
theorem gX6_worthOf_X6_less : GoodIn wsX6_worthOf (wsV RX6 137 RX6 yX6_less wsX6_less) := goodIn_app (goodIn_of _ (by decide +kernel)) ggX6_worthOf_X6_less
theorem dX6_worthOf_0 : decode cX6_worthOf 0 = .ok (.aload_n 0, 1) := by decide +kernel
theorem dX6_worthOf_1 : decode cX6_worthOf 1 = .ok (.iload_n 1, 1) := by decide +kernel
theorem dX6_worthOf_2 : decode cX6_worthOf 2 = .ok (.bipush 10, 2) := by decide +kernel
theorem dX6_worthOf_4 : decode cX6_worthOf 4 = .ok (.invokevirtual 137, 3) := by decide +kernel
theorem dX6_worthOf_7 : decode cX6_worthOf 7 = .ok (.istore_n 2, 1) := by decide +kernel
theorem dX6_worthOf_8 : decode cX6_worthOf 8 = .ok (.aload_n 0, 1) := by decide +kernel
theorem dX6_worthOf_9 : decode cX6_worthOf 9 = .ok (.iload_n 1, 1) := by decide +kernel
theorem dX6_worthOf_10 : decode cX6_worthOf 10 = .ok (.bipush 30, 2) := by decide +kernel
theorem dX6_worthOf_12 : decode cX6_worthOf 12 = .ok (.invokevirtual 137, 3) := by decide +kernel
theorem dX6_worthOf_15 : decode cX6_worthOf 15 = .ok (.iload_n 2, 1) := by decide +kernel
theorem dX6_worthOf_16 : decode cX6_worthOf 16 = .ok (.isub, 1) := by decide +kernel
theorem dX6_worthOf_17 : decode cX6_worthOf 17 = .ok (.istore_n 3, 1) := by decide +kernel
theorem dX6_worthOf_18 : decode cX6_worthOf 18 = .ok (.aload_n 0, 1) := by decide +kernel
theorem dX6_worthOf_19 : decode cX6_worthOf 19 = .ok (.getfield 53, 3) := by decide +kernel
theorem dX6_worthOf_22 : decode cX6_worthOf 22 = .ok (.iconst 0, 1) := by decide +kernel
theorem dX6_worthOf_23 : decode cX6_worthOf 23 = .ok (.iaload, 1) := by decide +kernel
theorem dX6_worthOf_24 : decode cX6_worthOf 24 = .ok (.iload_n 2, 1) := by decide +kernel
theorem dX6_worthOf_25 : decode cX6_worthOf 25 = .ok (.imul, 1) := by decide +kernel
theorem dX6_worthOf_26 : decode cX6_worthOf 26 = .ok (.aload_n 0, 1) := by decide +kernel
theorem dX6_worthOf_27 : decode cX6_worthOf 27 = .ok (.getfield 53, 3) := by decide +kernel
theorem dX6_worthOf_30 : decode cX6_worthOf 30 = .ok (.iconst 1, 1) := by decide +kernel
theorem dX6_worthOf_31 : decode cX6_worthOf 31 = .ok (.iaload, 1) := by decide +kernel
theorem dX6_worthOf_32 : decode cX6_worthOf 32 = .ok (.iload_n 3, 1) := by decide +kernel
theorem dX6_worthOf_33 : decode cX6_worthOf 33 = .ok (.imul, 1) := by decide +kernel
theorem dX6_worthOf_34 : decode cX6_worthOf 34 = .ok (.iadd, 1) := by decide +kernel
theorem dX6_worthOf_35 : decode cX6_worthOf 35 = .ok (.aload_n 0, 1) := by decide +kernel
theorem dX6_worthOf_36 : decode cX6_worthOf 36 = .ok (.getfield 53, 3) := by decide +kernel
theorem dX6_worthOf_39 : decode cX6_worthOf 39 = .ok (.iconst 2, 1) := by decide +kernel
theorem dX6_worthOf_40 : decode cX6_worthOf 40 = .ok (.iaload, 1) := by decide +kernel
theorem dX6_worthOf_41 : decode cX6_worthOf 41 = .ok (.iload_n 1, 1) := by decide +kernel
theorem dX6_worthOf_42 : decode cX6_worthOf 42 = .ok (.iload_n 2, 1) := by decide +kernel
theorem dX6_worthOf_43 : decode cX6_worthOf 43 = .ok (.isub, 1) := by decide +kernel
theorem dX6_worthOf_44 : decode cX6_worthOf 44 = .ok (.iload_n 3, 1) := by decide +kernel
theorem dX6_worthOf_45 : decode cX6_worthOf 45 = .ok (.isub, 1) := by decide +kernel
theorem dX6_worthOf_46 : decode cX6_worthOf 46 = .ok (.imul, 1) := by decide +kernel
theorem dX6_worthOf_47 : decode cX6_worthOf 47 = .ok (.iadd, 1) := by decide +kernel
theorem dX6_worthOf_48 : decode cX6_worthOf 48 = .ok (.ireturn, 1) := by decide +kernel
set_option maxRecDepth 20000 in
theorem ggX6_worth_X6_isIn : GoodIn wsX6_worth wsX6_isIn := goodIn_r _ [6] rfl (by decide +kernel)
set_option maxRecDepth 20000 in
theorem gX6_worth_X6_isIn : GoodIn wsX6_worth (wsV RX6 129 RX6 yX6_isIn wsX6_isIn) := goodIn_app (goodIn_of _ (by decide +kernel)) ggX6_worth_X6_isIn
set_option maxRecDepth 20000 in
theorem ggX6_worth_X6_worthOf : GoodIn wsX6_worth wsX6_worthOf := goodIn_r _ [10, 11, 12, 13, 14, 5, 15, 16, 17, 18, 19, 20, 21, 22, 23, 24, 25, 26, 27, 28, 29, 30, 31, 32, 33, 34, 35, 36, 37, 38, 39, 40, 41, 42, 43, 44, 45, 46, 47, 48, 49, 50, 51, 52, 53, 54, 55, 56, 57, 58, 59, 60, 61, 62, 63, 64, 65, 66, 67, 68, 69, 70] rfl (by decide +kernel)
set_option maxRecDepth 20000 in
theorem gX6_worth_X6_worthOf : GoodIn wsX6_worth (wsV RX6 141 RX6 yX6_worthOf wsX6_worthOf) := goodIn_app (goodIn_of _ (by decide +kernel)) ggX6_worth_X6_worthOf
theorem dX6_worth_0 : decode cX6_worth 0 = .ok (.aload_n 0, 1) := by decide +kernel
theorem dX6_worth_1 : decode cX6_worth 1 = .ok (.iconst 0, 1) := by decide +kernel
theorem dX6_worth_2 : decode cX6_worth 2 = .ok (.putfield 121, 3) := by decide +kernel
theorem dX6_worth_5 : decode cX6_worth 5 = .ok (.aload_n 0, 1) := by decide +kernel
theorem dX6_worth_6 : decode cX6_worth 6 = .ok (.iload_n 1, 1) := by decide +kernel
theorem dX6_worth_7 : decode cX6_worth 7 = .ok (.iconst 0, 1) := by decide +kernel
theorem dX6_worth_8 : decode cX6_worth 8 = .ok (.sipush 600, 3) := by decide +kernel
theorem dX6_worth_11 : decode cX6_worth 11 = .ok (.invokevirtual 129, 3) := by decide +kernel
theorem dX6_worth_14 : decode cX6_worth 14 = .ok (.ifCond .eq 11, 3) := by decide +kernel
theorem dX6_worth_17 : decode cX6_worth 17 = .ok (.aload_n 0, 1) := by decide +kernel
theorem dX6_worth_18 : decode cX6_worth 18 = .ok (.iload_n 1, 1) := by decide +kernel
theorem dX6_worth_19 : decode cX6_worth 19 = .ok (.invokevirtual 141, 3) := by decide +kernel
theorem dX6_worth_22 : decode cX6_worth 22 = .ok (.goto 4, 3) := by decide +kernel
theorem dX6_worth_25 : decode cX6_worth 25 = .ok (.iconst (-1), 1) := by decide +kernel
theorem dX6_worth_26 : decode cX6_worth 26 = .ok (.ireturn, 1) := by decide +kernel
theorem dX6_rightOf_0 : decode cX6_rightOf 0 = .ok (.iload_n 1, 1) := by decide +kernel
theorem dX6_rightOf_1 : decode cX6_rightOf 1 = .ok (.iconst 1, 1) := by decide +kernel
theorem dX6_rightOf_2 : decode cX6_rightOf 2 = .ok (.iadd, 1) := by decide +kernel
theorem dX6_rightOf_3 : decode cX6_rightOf 3 = .ok (.aload_n 0, 1) := by decide +kernel
theorem dX6_rightOf_4 : decode cX6_rightOf 4 = .ok (.getfield 7, 3) := by decide +kernel
theorem dX6_rightOf_7 : decode cX6_rightOf 7 = .ok (.irem, 1) := by decide +kernel
theorem dX6_rightOf_8 : decode cX6_rightOf 8 = .ok (.ireturn, 1) := by decide +kernel
theorem dX6_leftOf_0 : decode cX6_leftOf 0 = .ok (.iload_n 1, 1) := by decide +kernel
theorem dX6_leftOf_1 : decode cX6_leftOf 1 = .ok (.aload_n 0, 1) := by decide +kernel
theorem dX6_leftOf_2 : decode cX6_leftOf 2 = .ok (.getfield 7, 3) := by decide +kernel
theorem dX6_leftOf_5 : decode cX6_leftOf 5 = .ok (.iadd, 1) := by decide +kernel
theorem dX6_leftOf_6 : decode cX6_leftOf 6 = .ok (.iconst 1, 1) := by decide +kernel
theorem dX6_leftOf_7 : decode cX6_leftOf 7 = .ok (.isub, 1) := by decide +kernel
theorem dX6_leftOf_8 : decode cX6_leftOf 8 = .ok (.aload_n 0, 1) := by decide +kernel
theorem dX6_leftOf_9 : decode cX6_leftOf 9 = .ok (.getfield 7, 3) := by decide +kernel
theorem dX6_leftOf_12 : decode cX6_leftOf 12 = .ok (.irem, 1) := by decide +kernel
theorem dX6_leftOf_13 : decode cX6_leftOf 13 = .ok (.ireturn, 1) := by decide +kernel
theorem dX6_puts_0 : decode cX6_puts 0 = .ok (.bipush 24, 2) := by decide +kernel
theorem dX6_puts_2 : decode cX6_puts 2 = .ok (.istore_n 2, 1) := by decide +kernel
theorem dX6_puts_3 : decode cX6_puts 3 = .ok (.iload_n 2, 1) := by decide +kernel
theorem dX6_puts_4 : decode cX6_puts 4 = .ok (.ifCond .lt 35, 3) := by decide +kernel
theorem dX6_puts_7 : decode cX6_puts 7 = .ok (.aload_n 0, 1) := by decide +kernel
theorem dX6_puts_8 : decode cX6_puts 8 = .ok (.getfield 56, 3) := by decide +kernel
theorem dX6_puts_11 : decode cX6_puts 11 = .ok (.aload_n 0, 1) := by decide +kernel
theorem dX6_puts_12 : decode cX6_puts 12 = .ok (.getfield 145, 3) := by decide +kernel
theorem dX6_puts_15 : decode cX6_puts 15 = .ok (.iload_n 1, 1) := by decide +kernel
theorem dX6_puts_16 : decode cX6_puts 16 = .ok (.iload_n 2, 1) := by decide +kernel
theorem dX6_puts_17 : decode cX6_puts 17 = .ok (.ishr, 1) := by decide +kernel
theorem dX6_puts_18 : decode cX6_puts 18 = .ok (.sipush 255, 3) := by decide +kernel
theorem dX6_puts_21 : decode cX6_puts 21 = .ok (.iand, 1) := by decide +kernel
theorem dX6_puts_22 : decode cX6_puts 22 = .ok (.iastore, 1) := by decide +kernel
theorem dX6_puts_23 : decode cX6_puts 23 = .ok (.aload_n 0, 1) := by decide +kernel
theorem dX6_puts_24 : decode cX6_puts 24 = .ok (.aload_n 0, 1) := by decide +kernel
theorem dX6_puts_25 : decode cX6_puts 25 = .ok (.getfield 145, 3) := by decide +kernel
theorem dX6_puts_28 : decode cX6_puts 28 = .ok (.iconst 1, 1) := by decide +kernel
theorem dX6_puts_29 : decode cX6_puts 29 = .ok (.iadd, 1) := by decide +kernel
theorem dX6_puts_30 : decode cX6_puts 30 = .ok (.putfield 145, 3) := by decide +kernel
theorem dX6_puts_33 : decode cX6_puts 33 = .ok (.iinc 2 (-8), 3) := by decide +kernel
theorem dX6_puts_36 : decode cX6_puts 36 = .ok (.goto (-33), 3) := by decide +kernel
theorem dX6_puts_39 : decode cX6_puts 39 = .ok (.return_, 1) := by decide +kernel
set_option maxRecDepth 20000 in
theorem ggX6_feed_X6_puts : GoodIn wsX6_feed wsX6_puts := goodIn_r _ [7, 8, 2, 9, 10, 11, 12, 13, 14, 15, 16, 17, 18, 19, 20, 21, 22, 23, 24, 25, 26, 27, 28, 29, 30, 31, 32, 33, 34, 35, 36, 37, 38, 39, 40, 41, 42, 43, 44, 45, 46, 47, 48, 49, 50, 51, 52, 53, 54, 55, 56, 57, 58, 59, 60, 61, 62, 63] rfl (by decide +kernel)
set_option maxRecDepth 20000 in
theorem gX6_feed_X6_puts : GoodIn wsX6_feed (wsV RX6 148 RX6 yX6_puts wsX6_puts) := goodIn_app (goodIn_of _ (by decide +kernel)) ggX6_feed_X6_puts
theorem dX6_feed_0 : decode cX6_feed 0 = .ok (.aload_n 0, 1) := by decide +kernel
theorem dX6_feed_1 : decode cX6_feed 1 = .ok (.iconst 0, 1) := by decide +kernel
theorem dX6_feed_2 : decode cX6_feed 2 = .ok (.putfield 121, 3) := by decide +kernel
theorem dX6_feed_5 : decode cX6_feed 5 = .ok (.aload_n 0, 1) := by decide +kernel
theorem dX6_feed_6 : decode cX6_feed 6 = .ok (.getfield 145, 3) := by decide +kernel
theorem dX6_feed_9 : decode cX6_feed 9 = .ok (.sipush 380, 3) := by decide +kernel
theorem dX6_feed_12 : decode cX6_feed 12 = .ok (.if_icmp .le 5, 3) := by decide +kernel
theorem dX6_feed_15 : decode cX6_feed 15 = .ok (.iconst (-1), 1) := by decide +kernel
theorem dX6_feed_16 : decode cX6_feed 16 = .ok (.ireturn, 1) := by decide +kernel
theorem dX6_feed_17 : decode cX6_feed 17 = .ok (.aload_n 0, 1) := by decide +kernel
theorem dX6_feed_18 : decode cX6_feed 18 = .ok (.iload_n 1, 1) := by decide +kernel
theorem dX6_feed_19 : decode cX6_feed 19 = .ok (.invokevirtual 148, 3) := by decide +kernel
theorem dX6_feed_22 : decode cX6_feed 22 = .ok (.aload_n 0, 1) := by decide +kernel
theorem dX6_feed_23 : decode cX6_feed 23 = .ok (.iload_n 2, 1) := by decide +kernel
theorem dX6_feed_24 : decode cX6_feed 24 = .ok (.invokevirtual 148, 3) := by decide +kernel
theorem dX6_feed_27 : decode cX6_feed 27 = .ok (.aload_n 0, 1) := by decide +kernel
theorem dX6_feed_28 : decode cX6_feed 28 = .ok (.iload_n 3, 1) := by decide +kernel
theorem dX6_feed_29 : decode cX6_feed 29 = .ok (.invokevirtual 148, 3) := by decide +kernel
theorem dX6_feed_32 : decode cX6_feed 32 = .ok (.aload_n 0, 1) := by decide +kernel
theorem dX6_feed_33 : decode cX6_feed 33 = .ok (.iload 4, 2) := by decide +kernel
theorem dX6_feed_35 : decode cX6_feed 35 = .ok (.invokevirtual 148, 3) := by decide +kernel
theorem dX6_feed_38 : decode cX6_feed 38 = .ok (.aload_n 0, 1) := by decide +kernel
theorem dX6_feed_39 : decode cX6_feed 39 = .ok (.iload 5, 2) := by decide +kernel
theorem dX6_feed_41 : decode cX6_feed 41 = .ok (.invokevirtual 148, 3) := by decide +kernel
theorem dX6_feed_44 : decode cX6_feed 44 = .ok (.aload_n 0, 1) := by decide +kernel
theorem dX6_feed_45 : decode cX6_feed 45 = .ok (.getfield 145, 3) := by decide +kernel
theorem dX6_feed_48 : decode cX6_feed 48 = .ok (.ireturn, 1) := by decide +kernel
set_option maxRecDepth 20000 in
theorem ggX6_end_X6_isIn : GoodIn wsX6_end wsX6_isIn := goodIn_r _ [7] rfl (by decide +kernel)
set_option maxRecDepth 20000 in
theorem gX6_end_X6_isIn : GoodIn wsX6_end (wsV RX6 129 RX6 yX6_isIn wsX6_isIn) := goodIn_app (goodIn_of _ (by decide +kernel)) ggX6_end_X6_isIn
theorem dX6_end_0 : decode cX6_end 0 = .ok (.aload_n 0, 1) := by decide +kernel
theorem dX6_end_1 : decode cX6_end 1 = .ok (.iconst 0, 1) := by decide +kernel
theorem dX6_end_2 : decode cX6_end 2 = .ok (.putfield 121, 3) := by decide +kernel
theorem dX6_end_5 : decode cX6_end 5 = .ok (.aload_n 0, 1) := by decide +kernel
theorem dX6_end_6 : decode cX6_end 6 = .ok (.iload_n 1, 1) := by decide +kernel
theorem dX6_end_7 : decode cX6_end 7 = .ok (.iconst 0, 1) := by decide +kernel
theorem dX6_end_8 : decode cX6_end 8 = .ok (.aload_n 0, 1) := by decide +kernel
theorem dX6_end_9 : decode cX6_end 9 = .ok (.getfield 145, 3) := by decide +kernel
theorem dX6_end_12 : decode cX6_end 12 = .ok (.invokevirtual 129, 3) := by decide +kernel
theorem dX6_end_15 : decode cX6_end 15 = .ok (.ifCond .ne 5, 3) := by decide +kernel
theorem dX6_end_18 : decode cX6_end 18 = .ok (.iconst 0, 1) := by decide +kernel
theorem dX6_end_19 : decode cX6_end 19 = .ok (.ireturn, 1) := by decide +kernel
theorem dX6_end_20 : decode cX6_end 20 = .ok (.aload_n 0, 1) := by decide +kernel
theorem dX6_end_21 : decode cX6_end 21 = .ok (.iload_n 1, 1) := by decide +kernel
theorem dX6_end_22 : decode cX6_end 22 = .ok (.putfield 145, 3) := by decide +kernel
theorem dX6_end_25 : decode cX6_end 25 = .ok (.iconst 1, 1) := by decide +kernel
theorem dX6_end_26 : decode cX6_end 26 = .ok (.ireturn, 1) := by decide +kernel
theorem dX6_raw_0 : decode cX6_raw 0 = .ok (.iload_n 1, 1) := by decide +kernel
theorem dX6_raw_1 : decode cX6_raw 1 = .ok (.aload_n 0, 1) := by decide +kernel
theorem dX6_raw_2 : decode cX6_raw 2 = .ok (.getfield 145, 3) := by decide +kernel
theorem dX6_raw_5 : decode cX6_raw 5 = .ok (.if_icmp .ge 12, 3) := by decide +kernel
theorem dX6_raw_8 : decode cX6_raw 8 = .ok (.aload_n 0, 1) := by decide +kernel
theorem dX6_raw_9 : decode cX6_raw 9 = .ok (.getfield 56, 3) := by decide +kernel
theorem dX6_raw_12 : decode cX6_raw 12 = .ok (.iload_n 1, 1) := by decide +kernel
theorem dX6_raw_13 : decode cX6_raw 13 = .ok (.iaload, 1) := by decide +kernel
theorem dX6_raw_14 : decode cX6_raw 14 = .ok (.goto 4, 3) := by decide +kernel
theorem dX6_raw_17 : decode cX6_raw 17 = .ok (.iconst (-1), 1) := by decide +kernel
theorem dX6_raw_18 : decode cX6_raw 18 = .ok (.ireturn, 1) := by decide +kernel
set_option maxRecDepth 20000 in
theorem ggX6_isLetter_X6_isIn : GoodIn wsX6_isLetter wsX6_isIn := goodIn_r _ [5] rfl (by decide +kernel)
set_option maxRecDepth 20000 in
theorem gX6_isLetter_X6_isIn : GoodIn wsX6_isLetter (wsV RX6 129 RX6 yX6_isIn wsX6_isIn) := goodIn_app (goodIn_of _ (by decide +kernel)) ggX6_isLetter_X6_isIn
theorem dX6_isLetter_0 : decode cX6_isLetter 0 = .ok (.aload_n 0, 1) := by decide +kernel
theorem dX6_isLetter_1 : decode cX6_isLetter 1 = .ok (.iload_n 1, 1) := by decide +kernel
theorem dX6_isLetter_2 : decode cX6_isLetter 2 = .ok (.bipush 97, 2) := by decide +kernel
theorem dX6_isLetter_4 : decode cX6_isLetter 4 = .ok (.bipush 122, 2) := by decide +kernel
theorem dX6_isLetter_6 : decode cX6_isLetter 6 = .ok (.invokevirtual 129, 3) := by decide +kernel
theorem dX6_isLetter_9 : decode cX6_isLetter 9 = .ok (.ifCond .ne 15, 3) := by decide +kernel
theorem dX6_isLetter_12 : decode cX6_isLetter 12 = .ok (.aload_n 0, 1) := by decide +kernel
theorem dX6_isLetter_13 : decode cX6_isLetter 13 = .ok (.iload_n 1, 1) := by decide +kernel
theorem dX6_isLetter_14 : decode cX6_isLetter 14 = .ok (.bipush 65, 2) := by decide +kernel
theorem dX6_isLetter_16 : decode cX6_isLetter 16 = .ok (.bipush 90, 2) := by decide +kernel
theorem dX6_isLetter_18 : decode cX6_isLetter 18 = .ok (.invokevirtual 129, 3) := by decide +kernel
theorem dX6_isLetter_21 : decode cX6_isLetter 21 = .ok (.ifCond .eq 7, 3) := by decide +kernel
theorem dX6_isLetter_24 : decode cX6_isLetter 24 = .ok (.iconst 1, 1) := by decide +kernel
theorem dX6_isLetter_25 : decode cX6_isLetter 25 = .ok (.goto 4, 3) := by decide +kernel
theorem dX6_isLetter_28 : decode cX6_isLetter 28 = .ok (.iconst 0, 1) := by decide +kernel
theorem dX6_isLetter_29 : decode cX6_isLetter 29 = .ok (.ireturn, 1) := by decide +kernel
set_option maxRecDepth 20000 in
theorem ggX6_isDigit_X6_isIn : GoodIn wsX6_isDigit wsX6_isIn := goodIn_r _ [5] rfl (by decide +kernel)
set_option maxRecDepth 20000 in
theorem gX6_isDigit_X6_isIn : GoodIn wsX6_isDigit (wsV RX6 129 RX6 yX6_isIn wsX6_isIn) := goodIn_app (goodIn_of _ (by decide +kernel)) ggX6_isDigit_X6_isIn
theorem dX6_isDigit_0 : decode cX6_isDigit 0 = .ok (.aload_n 0, 1) := by decide +kernel
theorem dX6_isDigit_1 : decode cX6_isDigit 1 = .ok (.iload_n 1, 1) := by decide +kernel
theorem dX6_isDigit_2 : decode cX6_isDigit 2 = .ok (.bipush 48, 2) := by decide +kernel
theorem dX6_isDigit_4 : decode cX6_isDigit 4 = .ok (.bipush 57, 2) := by decide +kernel
theorem dX6_isDigit_6 : decode cX6_isDigit 6 = .ok (.invokevirtual 129, 3) := by decide +kernel
theorem dX6_isDigit_9 : decode cX6_isDigit 9 = .ok (.ireturn, 1) := by decide +kernel
theorem dX6_isMarkSign_0 : decode cX6_isMarkSign 0 = .ok (.iload_n 1, 1) := by decide +kernel
theorem dX6_isMarkSign_1 : decode cX6_isMarkSign 1 = .ok (.bipush 59, 2) := by decide +kernel
theorem dX6_isMarkSign_3 : decode cX6_isMarkSign 3 = .ok (.if_icmp .eq 57, 3) := by decide +kernel
theorem dX6_isMarkSign_6 : decode cX6_isMarkSign 6 = .ok (.iload_n 1, 1) := by decide +kernel
theorem dX6_isMarkSign_7 : decode cX6_isMarkSign 7 = .ok (.bipush 43, 2) := by decide +kernel
theorem dX6_isMarkSign_9 : decode cX6_isMarkSign 9 = .ok (.if_icmp .eq 51, 3) := by decide +kernel
theorem dX6_isMarkSign_12 : decode cX6_isMarkSign 12 = .ok (.iload_n 1, 1) := by decide +kernel
theorem dX6_isMarkSign_13 : decode cX6_isMarkSign 13 = .ok (.bipush 45, 2) := by decide +kernel
theorem dX6_isMarkSign_15 : decode cX6_isMarkSign 15 = .ok (.if_icmp .eq 45, 3) := by decide +kernel
theorem dX6_isMarkSign_18 : decode cX6_isMarkSign 18 = .ok (.iload_n 1, 1) := by decide +kernel
theorem dX6_isMarkSign_19 : decode cX6_isMarkSign 19 = .ok (.bipush 42, 2) := by decide +kernel
theorem dX6_isMarkSign_21 : decode cX6_isMarkSign 21 = .ok (.if_icmp .eq 39, 3) := by decide +kernel
theorem dX6_isMarkSign_24 : decode cX6_isMarkSign 24 = .ok (.iload_n 1, 1) := by decide +kernel
theorem dX6_isMarkSign_25 : decode cX6_isMarkSign 25 = .ok (.bipush 47, 2) := by decide +kernel
theorem dX6_isMarkSign_27 : decode cX6_isMarkSign 27 = .ok (.if_icmp .eq 33, 3) := by decide +kernel
theorem dX6_isMarkSign_30 : decode cX6_isMarkSign 30 = .ok (.iload_n 1, 1) := by decide +kernel
theorem dX6_isMarkSign_31 : decode cX6_isMarkSign 31 = .ok (.bipush 40, 2) := by decide +kernel
theorem dX6_isMarkSign_33 : decode cX6_isMarkSign 33 = .ok (.if_icmp .eq 27, 3) := by decide +kernel
theorem dX6_isMarkSign_36 : decode cX6_isMarkSign 36 = .ok (.iload_n 1, 1) := by decide +kernel
theorem dX6_isMarkSign_37 : decode cX6_isMarkSign 37 = .ok (.bipush 41, 2) := by decide +kernel
theorem dX6_isMarkSign_39 : decode cX6_isMarkSign 39 = .ok (.if_icmp .eq 21, 3) := by decide +kernel
theorem dX6_isMarkSign_42 : decode cX6_isMarkSign 42 = .ok (.iload_n 1, 1) := by decide +kernel
theorem dX6_isMarkSign_43 : decode cX6_isMarkSign 43 = .ok (.bipush 60, 2) := by decide +kernel
theorem dX6_isMarkSign_45 : decode cX6_isMarkSign 45 = .ok (.if_icmp .eq 15, 3) := by decide +kernel
theorem dX6_isMarkSign_48 : decode cX6_isMarkSign 48 = .ok (.iload_n 1, 1) := by decide +kernel
theorem dX6_isMarkSign_49 : decode cX6_isMarkSign 49 = .ok (.bipush 61, 2) := by decide +kernel
theorem dX6_isMarkSign_51 : decode cX6_isMarkSign 51 = .ok (.if_icmp .eq 9, 3) := by decide +kernel
theorem dX6_isMarkSign_54 : decode cX6_isMarkSign 54 = .ok (.iload_n 1, 1) := by decide +kernel
theorem dX6_isMarkSign_55 : decode cX6_isMarkSign 55 = .ok (.bipush 62, 2) := by decide +kernel
theorem dX6_isMarkSign_57 : decode cX6_isMarkSign 57 = .ok (.if_icmp .ne 7, 3) := by decide +kernel
theorem dX6_isMarkSign_60 : decode cX6_isMarkSign 60 = .ok (.iconst 1, 1) := by decide +kernel
theorem dX6_isMarkSign_61 : decode cX6_isMarkSign 61 = .ok (.goto 4, 3) := by decide +kernel
theorem dX6_isMarkSign_64 : decode cX6_isMarkSign 64 = .ok (.iconst 0, 1) := by decide +kernel
theorem dX6_isMarkSign_65 : decode cX6_isMarkSign 65 = .ok (.ireturn, 1) := by decide +kernel
theorem dX6_wordAt_0 : decode cX6_wordAt 0 = .ok (.iconst (-1), 1) := by decide +kernel
theorem dX6_wordAt_1 : decode cX6_wordAt 1 = .ok (.istore_n 3, 1) := by decide +kernel
theorem dX6_wordAt_2 : decode cX6_wordAt 2 = .ok (.iconst 0, 1) := by decide +kernel
theorem dX6_wordAt_3 : decode cX6_wordAt 3 = .ok (.istore 4, 2) := by decide +kernel
theorem dX6_wordAt_5 : decode cX6_wordAt 5 = .ok (.iload 4, 2) := by decide +kernel
theorem dX6_wordAt_7 : decode cX6_wordAt 7 = .ok (.bipush 98, 2) := by decide +kernel
theorem dX6_wordAt_9 : decode cX6_wordAt 9 = .ok (.if_icmp .ge 108, 3) := by decide +kernel
theorem dX6_wordAt_12 : decode cX6_wordAt 12 = .ok (.iconst 0, 1) := by decide +kernel
theorem dX6_wordAt_13 : decode cX6_wordAt 13 = .ok (.istore 5, 2) := by decide +kernel
theorem dX6_wordAt_15 : decode cX6_wordAt 15 = .ok (.iload_n 3, 1) := by decide +kernel
theorem dX6_wordAt_16 : decode cX6_wordAt 16 = .ok (.iconst 1, 1) := by decide +kernel
theorem dX6_wordAt_17 : decode cX6_wordAt 17 = .ok (.iadd, 1) := by decide +kernel
theorem dX6_wordAt_18 : decode cX6_wordAt 18 = .ok (.istore_n 3, 1) := by decide +kernel
theorem dX6_wordAt_19 : decode cX6_wordAt 19 = .ok (.iload_n 1, 1) := by decide +kernel
theorem dX6_wordAt_20 : decode cX6_wordAt 20 = .ok (.iload 5, 2) := by decide +kernel
theorem dX6_wordAt_22 : decode cX6_wordAt 22 = .ok (.iadd, 1) := by decide +kernel
theorem dX6_wordAt_23 : decode cX6_wordAt 23 = .ok (.iload_n 2, 1) := by decide +kernel
theorem dX6_wordAt_24 : decode cX6_wordAt 24 = .ok (.if_icmp .ge 36, 3) := by decide +kernel
theorem dX6_wordAt_27 : decode cX6_wordAt 27 = .ok (.aload_n 0, 1) := by decide +kernel
theorem dX6_wordAt_28 : decode cX6_wordAt 28 = .ok (.getfield 59, 3) := by decide +kernel
theorem dX6_wordAt_31 : decode cX6_wordAt 31 = .ok (.iload 4, 2) := by decide +kernel
theorem dX6_wordAt_33 : decode cX6_wordAt 33 = .ok (.iconst 1, 1) := by decide +kernel
theorem dX6_wordAt_34 : decode cX6_wordAt 34 = .ok (.iadd, 1) := by decide +kernel
theorem dX6_wordAt_35 : decode cX6_wordAt 35 = .ok (.iload 5, 2) := by decide +kernel
theorem dX6_wordAt_37 : decode cX6_wordAt 37 = .ok (.iadd, 1) := by decide +kernel
theorem dX6_wordAt_38 : decode cX6_wordAt 38 = .ok (.iaload, 1) := by decide +kernel
theorem dX6_wordAt_39 : decode cX6_wordAt 39 = .ok (.aload_n 0, 1) := by decide +kernel
theorem dX6_wordAt_40 : decode cX6_wordAt 40 = .ok (.getfield 56, 3) := by decide +kernel
theorem dX6_wordAt_43 : decode cX6_wordAt 43 = .ok (.iload_n 1, 1) := by decide +kernel
theorem dX6_wordAt_44 : decode cX6_wordAt 44 = .ok (.iload 5, 2) := by decide +kernel
theorem dX6_wordAt_46 : decode cX6_wordAt 46 = .ok (.iadd, 1) := by decide +kernel
theorem dX6_wordAt_47 : decode cX6_wordAt 47 = .ok (.iaload, 1) := by decide +kernel
theorem dX6_wordAt_48 : decode cX6_wordAt 48 = .ok (.if_icmp .ne 12, 3) := by decide +kernel
theorem dX6_wordAt_51 : decode cX6_wordAt 51 = .ok (.iload 5, 2) := by decide +kernel
theorem dX6_wordAt_53 : decode cX6_wordAt 53 = .ok (.iconst 1, 1) := by decide +kernel
theorem dX6_wordAt_54 : decode cX6_wordAt 54 = .ok (.iadd, 1) := by decide +kernel
theorem dX6_wordAt_55 : decode cX6_wordAt 55 = .ok (.istore 5, 2) := by decide +kernel
theorem dX6_wordAt_57 : decode cX6_wordAt 57 = .ok (.goto (-38), 3) := by decide +kernel
theorem dX6_wordAt_60 : decode cX6_wordAt 60 = .ok (.iload_n 1, 1) := by decide +kernel
theorem dX6_wordAt_61 : decode cX6_wordAt 61 = .ok (.iload 5, 2) := by decide +kernel
theorem dX6_wordAt_63 : decode cX6_wordAt 63 = .ok (.iadd, 1) := by decide +kernel
theorem dX6_wordAt_64 : decode cX6_wordAt 64 = .ok (.iload_n 2, 1) := by decide +kernel
theorem dX6_wordAt_65 : decode cX6_wordAt 65 = .ok (.if_icmp .ne 22, 3) := by decide +kernel
theorem dX6_wordAt_68 : decode cX6_wordAt 68 = .ok (.aload_n 0, 1) := by decide +kernel
theorem dX6_wordAt_69 : decode cX6_wordAt 69 = .ok (.getfield 59, 3) := by decide +kernel
theorem dX6_wordAt_72 : decode cX6_wordAt 72 = .ok (.iload 4, 2) := by decide +kernel
theorem dX6_wordAt_74 : decode cX6_wordAt 74 = .ok (.iconst 1, 1) := by decide +kernel
theorem dX6_wordAt_75 : decode cX6_wordAt 75 = .ok (.iadd, 1) := by decide +kernel
theorem dX6_wordAt_76 : decode cX6_wordAt 76 = .ok (.iload 5, 2) := by decide +kernel
theorem dX6_wordAt_78 : decode cX6_wordAt 78 = .ok (.iadd, 1) := by decide +kernel
theorem dX6_wordAt_79 : decode cX6_wordAt 79 = .ok (.iaload, 1) := by decide +kernel
theorem dX6_wordAt_80 : decode cX6_wordAt 80 = .ok (.bipush 32, 2) := by decide +kernel
theorem dX6_wordAt_82 : decode cX6_wordAt 82 = .ok (.if_icmp .ne 5, 3) := by decide +kernel
theorem dX6_wordAt_85 : decode cX6_wordAt 85 = .ok (.iload_n 3, 1) := by decide +kernel
theorem dX6_wordAt_86 : decode cX6_wordAt 86 = .ok (.ireturn, 1) := by decide +kernel
theorem dX6_wordAt_87 : decode cX6_wordAt 87 = .ok (.iload 4, 2) := by decide +kernel
theorem dX6_wordAt_89 : decode cX6_wordAt 89 = .ok (.iconst 1, 1) := by decide +kernel
theorem dX6_wordAt_90 : decode cX6_wordAt 90 = .ok (.iadd, 1) := by decide +kernel
theorem dX6_wordAt_91 : decode cX6_wordAt 91 = .ok (.istore 4, 2) := by decide +kernel
theorem dX6_wordAt_93 : decode cX6_wordAt 93 = .ok (.aload_n 0, 1) := by decide +kernel
theorem dX6_wordAt_94 : decode cX6_wordAt 94 = .ok (.getfield 59, 3) := by decide +kernel
theorem dX6_wordAt_97 : decode cX6_wordAt 97 = .ok (.iload 4, 2) := by decide +kernel
theorem dX6_wordAt_99 : decode cX6_wordAt 99 = .ok (.iaload, 1) := by decide +kernel
theorem dX6_wordAt_100 : decode cX6_wordAt 100 = .ok (.bipush 32, 2) := by decide +kernel
theorem dX6_wordAt_102 : decode cX6_wordAt 102 = .ok (.if_icmp .eq 12, 3) := by decide +kernel
theorem dX6_wordAt_105 : decode cX6_wordAt 105 = .ok (.iload 4, 2) := by decide +kernel
theorem dX6_wordAt_107 : decode cX6_wordAt 107 = .ok (.iconst 1, 1) := by decide +kernel
theorem dX6_wordAt_108 : decode cX6_wordAt 108 = .ok (.iadd, 1) := by decide +kernel
theorem dX6_wordAt_109 : decode cX6_wordAt 109 = .ok (.istore 4, 2) := by decide +kernel
theorem dX6_wordAt_111 : decode cX6_wordAt 111 = .ok (.goto (-18), 3) := by decide +kernel
theorem dX6_wordAt_114 : decode cX6_wordAt 114 = .ok (.goto (-109), 3) := by decide +kernel
theorem dX6_wordAt_117 : decode cX6_wordAt 117 = .ok (.iconst (-1), 1) := by decide +kernel
theorem dX6_wordAt_118 : decode cX6_wordAt 118 = .ok (.ireturn, 1) := by decide +kernel
set_option maxRecDepth 20000 in
theorem ggX6_reads_X6_raw : GoodIn wsX6_reads wsX6_raw := goodIn_r _ [9, 10, 11, 33, 34, 35, 36, 37, 38, 39, 40, 41, 42, 43, 44, 45, 46, 47, 48, 49, 50, 51, 52, 53, 54, 55, 56, 57, 58, 59, 60, 61, 62, 63, 64, 65, 66, 67, 68, 69, 70, 71, 72, 73, 74, 75, 76, 77, 78, 79, 80, 81, 82, 83, 84, 85, 86, 87] rfl (by decide +kernel)
set_option maxRecDepth 20000 in
theorem gX6_reads_X6_raw : GoodIn wsX6_reads (wsV RX6 155 RX6 yX6_raw wsX6_raw) := goodIn_app (goodIn_of _ (by decide +kernel)) ggX6_reads_X6_raw
set_option maxRecDepth 20000 in
theorem ggX6_reads_X6_isLetter : GoodIn wsX6_reads wsX6_isLetter := goodIn_r _ [15, 16, 17, 18, 8, 19] rfl (by decide +kernel)
set_option maxRecDepth 20000 in
theorem gX6_reads_X6_isLetter : GoodIn wsX6_reads (wsV RX6 167 RX6 yX6_isLetter wsX6_isLetter) := goodIn_app (goodIn_of _ (by decide +kernel)) ggX6_reads_X6_isLetter
set_option maxRecDepth 20000 in
theorem ggX6_reads_X6_wordAt : GoodIn wsX6_reads wsX6_wordAt := goodIn_r _ [23, 24, 11, 33, 34, 35, 36, 37, 38, 39, 40, 41, 42, 43, 44, 45, 46, 47, 48, 49, 50, 51, 52, 53, 54, 55, 56, 57, 58, 59, 60, 61, 62, 63, 64, 65, 66, 67, 68, 69, 70, 71, 72, 73, 74, 75, 76, 77, 78, 79, 80, 81, 82, 83, 84, 85, 86, 87] rfl (by decide +kernel)
set_option maxRecDepth 20000 in
theorem gX6_reads_X6_wordAt : GoodIn wsX6_reads (wsV RX6 170 RX6 yX6_wordAt wsX6_wordAt) := goodIn_app (goodIn_of _ (by decide +kernel)) ggX6_reads_X6_wordAt
set_option maxRecDepth 20000 in
theorem ggX6_reads_X6_isDigit : GoodIn wsX6_reads wsX6_isDigit := goodIn_r _ [28, 16, 17, 18, 8, 19] rfl (by decide +kernel)
set_option maxRecDepth 20000 in
theorem gX6_reads_X6_isDigit : GoodIn wsX6_reads (wsV RX6 173 RX6 yX6_isDigit wsX6_isDigit) := goodIn_app (goodIn_of _ (by decide +kernel)) ggX6_reads_X6_isDigit
set_option maxRecDepth 20000 in
theorem ggX6_reads_X6_isMarkSign : GoodIn wsX6_reads wsX6_isMarkSign := goodIn_r _ [32] rfl (by decide +kernel)
set_option maxRecDepth 20000 in
theorem gX6_reads_X6_isMarkSign : GoodIn wsX6_reads (wsV RX6 176 RX6 yX6_isMarkSign wsX6_isMarkSign) := goodIn_app (goodIn_of _ (by decide +kernel)) ggX6_reads_X6_isMarkSign
theorem dX6_reads_0 : decode cX6_reads 0 = .ok (.aload_n 0, 1) := by decide +kernel
theorem dX6_reads_1 : decode cX6_reads 1 = .ok (.aload_n 0, 1) := by decide +kernel
theorem dX6_reads_2 : decode cX6_reads 2 = .ok (.getfield 152, 3) := by decide +kernel
theorem dX6_reads_5 : decode cX6_reads 5 = .ok (.invokevirtual 155, 3) := by decide +kernel
theorem dX6_reads_8 : decode cX6_reads 8 = .ok (.bipush 32, 2) := by decide +kernel
theorem dX6_reads_10 : decode cX6_reads 10 = .ok (.if_icmp .eq 16, 3) := by decide +kernel
theorem dX6_reads_13 : decode cX6_reads 13 = .ok (.aload_n 0, 1) := by decide +kernel
theorem dX6_reads_14 : decode cX6_reads 14 = .ok (.aload_n 0, 1) := by decide +kernel
theorem dX6_reads_15 : decode cX6_reads 15 = .ok (.getfield 152, 3) := by decide +kernel
theorem dX6_reads_18 : decode cX6_reads 18 = .ok (.invokevirtual 155, 3) := by decide +kernel
theorem dX6_reads_21 : decode cX6_reads 21 = .ok (.bipush 10, 2) := by decide +kernel
theorem dX6_reads_23 : decode cX6_reads 23 = .ok (.if_icmp .ne 16, 3) := by decide +kernel
theorem dX6_reads_26 : decode cX6_reads 26 = .ok (.aload_n 0, 1) := by decide +kernel
theorem dX6_reads_27 : decode cX6_reads 27 = .ok (.aload_n 0, 1) := by decide +kernel
theorem dX6_reads_28 : decode cX6_reads 28 = .ok (.getfield 152, 3) := by decide +kernel
theorem dX6_reads_31 : decode cX6_reads 31 = .ok (.iconst 1, 1) := by decide +kernel
theorem dX6_reads_32 : decode cX6_reads 32 = .ok (.iadd, 1) := by decide +kernel
theorem dX6_reads_33 : decode cX6_reads 33 = .ok (.putfield 152, 3) := by decide +kernel
theorem dX6_reads_36 : decode cX6_reads 36 = .ok (.goto (-36), 3) := by decide +kernel
theorem dX6_reads_39 : decode cX6_reads 39 = .ok (.aload_n 0, 1) := by decide +kernel
theorem dX6_reads_40 : decode cX6_reads 40 = .ok (.aload_n 0, 1) := by decide +kernel
theorem dX6_reads_41 : decode cX6_reads 41 = .ok (.getfield 152, 3) := by decide +kernel
theorem dX6_reads_44 : decode cX6_reads 44 = .ok (.putfield 158, 3) := by decide +kernel
theorem dX6_reads_47 : decode cX6_reads 47 = .ok (.aload_n 0, 1) := by decide +kernel
theorem dX6_reads_48 : decode cX6_reads 48 = .ok (.iconst 1, 1) := by decide +kernel
theorem dX6_reads_49 : decode cX6_reads 49 = .ok (.putfield 161, 3) := by decide +kernel
theorem dX6_reads_52 : decode cX6_reads 52 = .ok (.aload_n 0, 1) := by decide +kernel
theorem dX6_reads_53 : decode cX6_reads 53 = .ok (.aload_n 0, 1) := by decide +kernel
theorem dX6_reads_54 : decode cX6_reads 54 = .ok (.getfield 152, 3) := by decide +kernel
theorem dX6_reads_57 : decode cX6_reads 57 = .ok (.invokevirtual 155, 3) := by decide +kernel
theorem dX6_reads_60 : decode cX6_reads 60 = .ok (.istore_n 1, 1) := by decide +kernel
theorem dX6_reads_61 : decode cX6_reads 61 = .ok (.iload_n 1, 1) := by decide +kernel
theorem dX6_reads_62 : decode cX6_reads 62 = .ok (.iconst (-1), 1) := by decide +kernel
theorem dX6_reads_63 : decode cX6_reads 63 = .ok (.if_icmp .ne 9, 3) := by decide +kernel
theorem dX6_reads_66 : decode cX6_reads 66 = .ok (.aload_n 0, 1) := by decide +kernel
theorem dX6_reads_67 : decode cX6_reads 67 = .ok (.iconst 0, 1) := by decide +kernel
theorem dX6_reads_68 : decode cX6_reads 68 = .ok (.putfield 161, 3) := by decide +kernel
theorem dX6_reads_71 : decode cX6_reads 71 = .ok (.return_, 1) := by decide +kernel
theorem dX6_reads_72 : decode cX6_reads 72 = .ok (.aload_n 0, 1) := by decide +kernel
theorem dX6_reads_73 : decode cX6_reads 73 = .ok (.aload_n 0, 1) := by decide +kernel
theorem dX6_reads_74 : decode cX6_reads 74 = .ok (.getfield 152, 3) := by decide +kernel
theorem dX6_reads_77 : decode cX6_reads 77 = .ok (.iconst 1, 1) := by decide +kernel
theorem dX6_reads_78 : decode cX6_reads 78 = .ok (.iadd, 1) := by decide +kernel
theorem dX6_reads_79 : decode cX6_reads 79 = .ok (.putfield 152, 3) := by decide +kernel
theorem dX6_reads_82 : decode cX6_reads 82 = .ok (.aload_n 0, 1) := by decide +kernel
theorem dX6_reads_83 : decode cX6_reads 83 = .ok (.iload_n 1, 1) := by decide +kernel
theorem dX6_reads_84 : decode cX6_reads 84 = .ok (.putfield 164, 3) := by decide +kernel
theorem dX6_reads_87 : decode cX6_reads 87 = .ok (.aload_n 0, 1) := by decide +kernel
theorem dX6_reads_88 : decode cX6_reads 88 = .ok (.iload_n 1, 1) := by decide +kernel
theorem dX6_reads_89 : decode cX6_reads 89 = .ok (.invokevirtual 167, 3) := by decide +kernel
theorem dX6_reads_92 : decode cX6_reads 92 = .ok (.ifCond .eq 63, 3) := by decide +kernel
theorem dX6_reads_95 : decode cX6_reads 95 = .ok (.aload_n 0, 1) := by decide +kernel
theorem dX6_reads_96 : decode cX6_reads 96 = .ok (.aload_n 0, 1) := by decide +kernel
theorem dX6_reads_97 : decode cX6_reads 97 = .ok (.aload_n 0, 1) := by decide +kernel
theorem dX6_reads_98 : decode cX6_reads 98 = .ok (.getfield 152, 3) := by decide +kernel
theorem dX6_reads_101 : decode cX6_reads 101 = .ok (.invokevirtual 155, 3) := by decide +kernel
theorem dX6_reads_104 : decode cX6_reads 104 = .ok (.invokevirtual 167, 3) := by decide +kernel
theorem dX6_reads_107 : decode cX6_reads 107 = .ok (.ifCond .eq 16, 3) := by decide +kernel
theorem dX6_reads_110 : decode cX6_reads 110 = .ok (.aload_n 0, 1) := by decide +kernel
theorem dX6_reads_111 : decode cX6_reads 111 = .ok (.aload_n 0, 1) := by decide +kernel
theorem dX6_reads_112 : decode cX6_reads 112 = .ok (.getfield 152, 3) := by decide +kernel
theorem dX6_reads_115 : decode cX6_reads 115 = .ok (.iconst 1, 1) := by decide +kernel
theorem dX6_reads_116 : decode cX6_reads 116 = .ok (.iadd, 1) := by decide +kernel
theorem dX6_reads_117 : decode cX6_reads 117 = .ok (.putfield 152, 3) := by decide +kernel
theorem dX6_reads_120 : decode cX6_reads 120 = .ok (.goto (-25), 3) := by decide +kernel
theorem dX6_reads_123 : decode cX6_reads 123 = .ok (.aload_n 0, 1) := by decide +kernel
theorem dX6_reads_124 : decode cX6_reads 124 = .ok (.aload_n 0, 1) := by decide +kernel
theorem dX6_reads_125 : decode cX6_reads 125 = .ok (.aload_n 0, 1) := by decide +kernel
theorem dX6_reads_126 : decode cX6_reads 126 = .ok (.getfield 158, 3) := by decide +kernel
theorem dX6_reads_129 : decode cX6_reads 129 = .ok (.aload_n 0, 1) := by decide +kernel
theorem dX6_reads_130 : decode cX6_reads 130 = .ok (.getfield 152, 3) := by decide +kernel
theorem dX6_reads_133 : decode cX6_reads 133 = .ok (.invokevirtual 170, 3) := by decide +kernel
theorem dX6_reads_136 : decode cX6_reads 136 = .ok (.putfield 164, 3) := by decide +kernel
theorem dX6_reads_139 : decode cX6_reads 139 = .ok (.aload_n 0, 1) := by decide +kernel
theorem dX6_reads_140 : decode cX6_reads 140 = .ok (.getfield 164, 3) := by decide +kernel
theorem dX6_reads_143 : decode cX6_reads 143 = .ok (.iconst (-1), 1) := by decide +kernel
theorem dX6_reads_144 : decode cX6_reads 144 = .ok (.if_icmp .eq 129, 3) := by decide +kernel
theorem dX6_reads_147 : decode cX6_reads 147 = .ok (.aload_n 0, 1) := by decide +kernel
theorem dX6_reads_148 : decode cX6_reads 148 = .ok (.iconst 2, 1) := by decide +kernel
theorem dX6_reads_149 : decode cX6_reads 149 = .ok (.putfield 161, 3) := by decide +kernel
theorem dX6_reads_152 : decode cX6_reads 152 = .ok (.goto 121, 3) := by decide +kernel
theorem dX6_reads_155 : decode cX6_reads 155 = .ok (.aload_n 0, 1) := by decide +kernel
theorem dX6_reads_156 : decode cX6_reads 156 = .ok (.iload_n 1, 1) := by decide +kernel
theorem dX6_reads_157 : decode cX6_reads 157 = .ok (.invokevirtual 173, 3) := by decide +kernel
theorem dX6_reads_160 : decode cX6_reads 160 = .ok (.ifCond .eq 100, 3) := by decide +kernel
theorem dX6_reads_163 : decode cX6_reads 163 = .ok (.aload_n 0, 1) := by decide +kernel
theorem dX6_reads_164 : decode cX6_reads 164 = .ok (.iload_n 1, 1) := by decide +kernel
theorem dX6_reads_165 : decode cX6_reads 165 = .ok (.bipush 48, 2) := by decide +kernel
theorem dX6_reads_167 : decode cX6_reads 167 = .ok (.isub, 1) := by decide +kernel
theorem dX6_reads_168 : decode cX6_reads 168 = .ok (.putfield 164, 3) := by decide +kernel
theorem dX6_reads_171 : decode cX6_reads 171 = .ok (.aload_n 0, 1) := by decide +kernel
theorem dX6_reads_172 : decode cX6_reads 172 = .ok (.aload_n 0, 1) := by decide +kernel
theorem dX6_reads_173 : decode cX6_reads 173 = .ok (.aload_n 0, 1) := by decide +kernel
theorem dX6_reads_174 : decode cX6_reads 174 = .ok (.getfield 152, 3) := by decide +kernel
theorem dX6_reads_177 : decode cX6_reads 177 = .ok (.invokevirtual 155, 3) := by decide +kernel
theorem dX6_reads_180 : decode cX6_reads 180 = .ok (.invokevirtual 173, 3) := by decide +kernel
theorem dX6_reads_183 : decode cX6_reads 183 = .ok (.ifCond .eq 56, 3) := by decide +kernel
theorem dX6_reads_186 : decode cX6_reads 186 = .ok (.aload_n 0, 1) := by decide +kernel
theorem dX6_reads_187 : decode cX6_reads 187 = .ok (.aload_n 0, 1) := by decide +kernel
theorem dX6_reads_188 : decode cX6_reads 188 = .ok (.getfield 164, 3) := by decide +kernel
theorem dX6_reads_191 : decode cX6_reads 191 = .ok (.sipush 10000, 3) := by decide +kernel
theorem dX6_reads_194 : decode cX6_reads 194 = .ok (.if_icmp .ge 25, 3) := by decide +kernel
theorem dX6_reads_197 : decode cX6_reads 197 = .ok (.bipush 10, 2) := by decide +kernel
theorem dX6_reads_199 : decode cX6_reads 199 = .ok (.aload_n 0, 1) := by decide +kernel
theorem dX6_reads_200 : decode cX6_reads 200 = .ok (.getfield 164, 3) := by decide +kernel
theorem dX6_reads_203 : decode cX6_reads 203 = .ok (.imul, 1) := by decide +kernel
theorem dX6_reads_204 : decode cX6_reads 204 = .ok (.aload_n 0, 1) := by decide +kernel
theorem dX6_reads_205 : decode cX6_reads 205 = .ok (.aload_n 0, 1) := by decide +kernel
theorem dX6_reads_206 : decode cX6_reads 206 = .ok (.getfield 152, 3) := by decide +kernel
theorem dX6_reads_209 : decode cX6_reads 209 = .ok (.invokevirtual 155, 3) := by decide +kernel
theorem dX6_reads_212 : decode cX6_reads 212 = .ok (.iadd, 1) := by decide +kernel
theorem dX6_reads_213 : decode cX6_reads 213 = .ok (.bipush 48, 2) := by decide +kernel
theorem dX6_reads_215 : decode cX6_reads 215 = .ok (.isub, 1) := by decide +kernel
theorem dX6_reads_216 : decode cX6_reads 216 = .ok (.goto 7, 3) := by decide +kernel
theorem dX6_reads_219 : decode cX6_reads 219 = .ok (.aload_n 0, 1) := by decide +kernel
theorem dX6_reads_220 : decode cX6_reads 220 = .ok (.getfield 164, 3) := by decide +kernel
theorem dX6_reads_223 : decode cX6_reads 223 = .ok (.putfield 164, 3) := by decide +kernel
theorem dX6_reads_226 : decode cX6_reads 226 = .ok (.aload_n 0, 1) := by decide +kernel
theorem dX6_reads_227 : decode cX6_reads 227 = .ok (.aload_n 0, 1) := by decide +kernel
theorem dX6_reads_228 : decode cX6_reads 228 = .ok (.getfield 152, 3) := by decide +kernel
theorem dX6_reads_231 : decode cX6_reads 231 = .ok (.iconst 1, 1) := by decide +kernel
theorem dX6_reads_232 : decode cX6_reads 232 = .ok (.iadd, 1) := by decide +kernel
theorem dX6_reads_233 : decode cX6_reads 233 = .ok (.putfield 152, 3) := by decide +kernel
theorem dX6_reads_236 : decode cX6_reads 236 = .ok (.goto (-65), 3) := by decide +kernel
theorem dX6_reads_239 : decode cX6_reads 239 = .ok (.aload_n 0, 1) := by decide +kernel
theorem dX6_reads_240 : decode cX6_reads 240 = .ok (.getfield 152, 3) := by decide +kernel
theorem dX6_reads_243 : decode cX6_reads 243 = .ok (.aload_n 0, 1) := by decide +kernel
theorem dX6_reads_244 : decode cX6_reads 244 = .ok (.getfield 158, 3) := by decide +kernel
theorem dX6_reads_247 : decode cX6_reads 247 = .ok (.isub, 1) := by decide +kernel
theorem dX6_reads_248 : decode cX6_reads 248 = .ok (.iconst 5, 1) := by decide +kernel
theorem dX6_reads_249 : decode cX6_reads 249 = .ok (.if_icmp .ge 24, 3) := by decide +kernel
theorem dX6_reads_252 : decode cX6_reads 252 = .ok (.aload_n 0, 1) := by decide +kernel
theorem dX6_reads_253 : decode cX6_reads 253 = .ok (.iconst 3, 1) := by decide +kernel
theorem dX6_reads_254 : decode cX6_reads 254 = .ok (.putfield 161, 3) := by decide +kernel
theorem dX6_reads_257 : decode cX6_reads 257 = .ok (.goto 16, 3) := by decide +kernel
theorem dX6_reads_260 : decode cX6_reads 260 = .ok (.aload_n 0, 1) := by decide +kernel
theorem dX6_reads_261 : decode cX6_reads 261 = .ok (.iload_n 1, 1) := by decide +kernel
theorem dX6_reads_262 : decode cX6_reads 262 = .ok (.invokevirtual 176, 3) := by decide +kernel
theorem dX6_reads_265 : decode cX6_reads 265 = .ok (.ifCond .eq 8, 3) := by decide +kernel
theorem dX6_reads_268 : decode cX6_reads 268 = .ok (.aload_n 0, 1) := by decide +kernel
theorem dX6_reads_269 : decode cX6_reads 269 = .ok (.iconst 4, 1) := by decide +kernel
theorem dX6_reads_270 : decode cX6_reads 270 = .ok (.putfield 161, 3) := by decide +kernel
theorem dX6_reads_273 : decode cX6_reads 273 = .ok (.return_, 1) := by decide +kernel
theorem dX6_errs_0 : decode cX6_errs 0 = .ok (.aload_n 0, 1) := by decide +kernel
theorem dX6_errs_1 : decode cX6_errs 1 = .ok (.iload_n 1, 1) := by decide +kernel
theorem dX6_errs_2 : decode cX6_errs 2 = .ok (.putfield 179, 3) := by decide +kernel
theorem dX6_errs_5 : decode cX6_errs 5 = .ok (.aload_n 0, 1) := by decide +kernel
theorem dX6_errs_6 : decode cX6_errs 6 = .ok (.aload_n 0, 1) := by decide +kernel
theorem dX6_errs_7 : decode cX6_errs 7 = .ok (.getfield 158, 3) := by decide +kernel
theorem dX6_errs_10 : decode cX6_errs 10 = .ok (.putfield 182, 3) := by decide +kernel
theorem dX6_errs_13 : decode cX6_errs 13 = .ok (.iconst (-1), 1) := by decide +kernel
theorem dX6_errs_14 : decode cX6_errs 14 = .ok (.ireturn, 1) := by decide +kernel
theorem dX6_isWord_0 : decode cX6_isWord 0 = .ok (.aload_n 0, 1) := by decide +kernel
theorem dX6_isWord_1 : decode cX6_isWord 1 = .ok (.getfield 161, 3) := by decide +kernel
theorem dX6_isWord_4 : decode cX6_isWord 4 = .ok (.iconst 2, 1) := by decide +kernel
theorem dX6_isWord_5 : decode cX6_isWord 5 = .ok (.if_icmp .ne 15, 3) := by decide +kernel
theorem dX6_isWord_8 : decode cX6_isWord 8 = .ok (.aload_n 0, 1) := by decide +kernel
theorem dX6_isWord_9 : decode cX6_isWord 9 = .ok (.getfield 164, 3) := by decide +kernel
theorem dX6_isWord_12 : decode cX6_isWord 12 = .ok (.iload_n 1, 1) := by decide +kernel
theorem dX6_isWord_13 : decode cX6_isWord 13 = .ok (.if_icmp .ne 7, 3) := by decide +kernel
theorem dX6_isWord_16 : decode cX6_isWord 16 = .ok (.iconst 1, 1) := by decide +kernel
theorem dX6_isWord_17 : decode cX6_isWord 17 = .ok (.goto 4, 3) := by decide +kernel
theorem dX6_isWord_20 : decode cX6_isWord 20 = .ok (.iconst 0, 1) := by decide +kernel
theorem dX6_isWord_21 : decode cX6_isWord 21 = .ok (.ireturn, 1) := by decide +kernel
theorem dX6_isSign_0 : decode cX6_isSign 0 = .ok (.aload_n 0, 1) := by decide +kernel
theorem dX6_isSign_1 : decode cX6_isSign 1 = .ok (.getfield 161, 3) := by decide +kernel
theorem dX6_isSign_4 : decode cX6_isSign 4 = .ok (.iconst 4, 1) := by decide +kernel
theorem dX6_isSign_5 : decode cX6_isSign 5 = .ok (.if_icmp .ne 15, 3) := by decide +kernel
theorem dX6_isSign_8 : decode cX6_isSign 8 = .ok (.aload_n 0, 1) := by decide +kernel
theorem dX6_isSign_9 : decode cX6_isSign 9 = .ok (.getfield 164, 3) := by decide +kernel
theorem dX6_isSign_12 : decode cX6_isSign 12 = .ok (.iload_n 1, 1) := by decide +kernel
theorem dX6_isSign_13 : decode cX6_isSign 13 = .ok (.if_icmp .ne 7, 3) := by decide +kernel
theorem dX6_isSign_16 : decode cX6_isSign 16 = .ok (.iconst 1, 1) := by decide +kernel
theorem dX6_isSign_17 : decode cX6_isSign 17 = .ok (.goto 4, 3) := by decide +kernel
theorem dX6_isSign_20 : decode cX6_isSign 20 = .ok (.iconst 0, 1) := by decide +kernel
theorem dX6_isSign_21 : decode cX6_isSign 21 = .ok (.ireturn, 1) := by decide +kernel
theorem dX6_emits_0 : decode cX6_emits 0 = .ok (.aload_n 0, 1) := by decide +kernel
theorem dX6_emits_1 : decode cX6_emits 1 = .ok (.getfield 74, 3) := by decide +kernel
theorem dX6_emits_4 : decode cX6_emits 4 = .ok (.sipush 1600, 3) := by decide +kernel
theorem dX6_emits_7 : decode cX6_emits 7 = .ok (.aload_n 0, 1) := by decide +kernel
theorem dX6_emits_8 : decode cX6_emits 8 = .ok (.getfield 185, 3) := by decide +kernel
theorem dX6_emits_11 : decode cX6_emits 11 = .ok (.iadd, 1) := by decide +kernel
theorem dX6_emits_12 : decode cX6_emits 12 = .ok (.iload_n 1, 1) := by decide +kernel
theorem dX6_emits_13 : decode cX6_emits 13 = .ok (.iastore, 1) := by decide +kernel
theorem dX6_emits_14 : decode cX6_emits 14 = .ok (.aload_n 0, 1) := by decide +kernel
theorem dX6_emits_15 : decode cX6_emits 15 = .ok (.getfield 77, 3) := by decide +kernel
theorem dX6_emits_18 : decode cX6_emits 18 = .ok (.sipush 1600, 3) := by decide +kernel
theorem dX6_emits_21 : decode cX6_emits 21 = .ok (.aload_n 0, 1) := by decide +kernel
theorem dX6_emits_22 : decode cX6_emits 22 = .ok (.getfield 185, 3) := by decide +kernel
theorem dX6_emits_25 : decode cX6_emits 25 = .ok (.iadd, 1) := by decide +kernel
theorem dX6_emits_26 : decode cX6_emits 26 = .ok (.iload_n 2, 1) := by decide +kernel
theorem dX6_emits_27 : decode cX6_emits 27 = .ok (.iastore, 1) := by decide +kernel
theorem dX6_emits_28 : decode cX6_emits 28 = .ok (.aload_n 0, 1) := by decide +kernel
theorem dX6_emits_29 : decode cX6_emits 29 = .ok (.aload_n 0, 1) := by decide +kernel
theorem dX6_emits_30 : decode cX6_emits 30 = .ok (.getfield 185, 3) := by decide +kernel
theorem dX6_emits_33 : decode cX6_emits 33 = .ok (.iconst 1, 1) := by decide +kernel
theorem dX6_emits_34 : decode cX6_emits 34 = .ok (.iadd, 1) := by decide +kernel
theorem dX6_emits_35 : decode cX6_emits 35 = .ok (.putfield 185, 3) := by decide +kernel
theorem dX6_emits_38 : decode cX6_emits 38 = .ok (.return_, 1) := by decide +kernel
set_option maxRecDepth 20000 in
theorem ggX6_readUnit_X6_errs : GoodIn wsX6_readUnit wsX6_errs := goodIn_r _ [7, 8, 9, 10, 50, 51, 52, 53, 54, 55, 56, 57, 58, 59, 60, 61, 62, 63, 64, 65, 66, 67, 68, 69, 70, 71, 72, 73, 74, 75, 76, 77, 78, 79, 80, 81, 82, 83, 84, 85, 86, 87, 88, 89, 90, 91, 92, 93, 94, 95, 96, 97, 98, 99, 100, 101, 102, 103, 104] rfl (by decide +kernel)
set_option maxRecDepth 20000 in
theorem gX6_readUnit_X6_errs : GoodIn wsX6_readUnit (wsV RX6 188 RX6 yX6_errs wsX6_errs) := goodIn_app (goodIn_of _ (by decide +kernel)) ggX6_readUnit_X6_errs
set_option maxRecDepth 20000 in
theorem ggX6_readUnit_X6_emits : GoodIn wsX6_readUnit wsX6_emits := goodIn_r _ [14, 15, 16, 17, 50, 51, 52, 53, 54, 55, 56, 57, 58, 59, 60, 61, 62, 63, 64, 65, 66, 67, 68, 69, 70, 71, 72, 73, 74, 75, 76, 77, 78, 79, 80, 81, 82, 83, 84, 85, 86, 87, 88, 89, 90, 91, 92, 93, 94, 95, 96, 97, 98, 99, 100, 101, 102, 103, 104] rfl (by decide +kernel)
set_option maxRecDepth 20000 in
theorem gX6_readUnit_X6_emits : GoodIn wsX6_readUnit (wsV RX6 191 RX6 yX6_emits wsX6_emits) := goodIn_app (goodIn_of _ (by decide +kernel)) ggX6_readUnit_X6_emits
set_option maxRecDepth 20000 in
theorem ggX6_readUnit_X6_reads : GoodIn wsX6_readUnit wsX6_reads := goodIn_r _ [21, 22, 9, 1, 2, 23, 24, 25, 6, 26, 27, 28, 29, 30, 31, 32, 33, 34, 35, 36, 37, 38, 39, 40, 41, 42, 43, 44, 45, 46, 47, 48, 49, 50, 51, 52, 53, 54, 55, 56, 57, 58, 59, 60, 61, 62, 63, 64, 65, 66, 67, 68, 69, 70, 71, 72, 73, 74, 75, 76, 77, 78, 79, 80, 81, 82, 83, 84, 85, 86, 87, 88, 89, 90, 91, 92, 93, 94, 95, 96, 97, 98, 99, 100, 101, 102, 103, 104] rfl (by decide +kernel)
set_option maxRecDepth 20000 in
theorem gX6_readUnit_X6_reads : GoodIn wsX6_readUnit (wsV RX6 195 RX6 yX6_reads wsX6_reads) := goodIn_app (goodIn_of _ (by decide +kernel)) ggX6_readUnit_X6_reads
theorem dX6_readUnit_0 : decode cX6_readUnit 0 = .ok (.aload_n 0, 1) := by decide +kernel
theorem dX6_readUnit_1 : decode cX6_readUnit 1 = .ok (.getfield 161, 3) := by decide +kernel
theorem dX6_readUnit_4 : decode cX6_readUnit 4 = .ok (.iconst 2, 1) := by decide +kernel
theorem dX6_readUnit_5 : decode cX6_readUnit 5 = .ok (.if_icmp .ne 15, 3) := by decide +kernel
theorem dX6_readUnit_8 : decode cX6_readUnit 8 = .ok (.aload_n 0, 1) := by decide +kernel
theorem dX6_readUnit_9 : decode cX6_readUnit 9 = .ok (.getfield 164, 3) := by decide +kernel
theorem dX6_readUnit_12 : decode cX6_readUnit 12 = .ok (.iconst 5, 1) := by decide +kernel
theorem dX6_readUnit_13 : decode cX6_readUnit 13 = .ok (.if_icmp .lt 7, 3) := by decide +kernel
theorem dX6_readUnit_16 : decode cX6_readUnit 16 = .ok (.iconst 1, 1) := by decide +kernel
theorem dX6_readUnit_17 : decode cX6_readUnit 17 = .ok (.goto 4, 3) := by decide +kernel
theorem dX6_readUnit_20 : decode cX6_readUnit 20 = .ok (.iconst 0, 1) := by decide +kernel
theorem dX6_readUnit_21 : decode cX6_readUnit 21 = .ok (.istore_n 1, 1) := by decide +kernel
theorem dX6_readUnit_22 : decode cX6_readUnit 22 = .ok (.iload_n 1, 1) := by decide +kernel
theorem dX6_readUnit_23 : decode cX6_readUnit 23 = .ok (.ifCond .ne 17, 3) := by decide +kernel
theorem dX6_readUnit_26 : decode cX6_readUnit 26 = .ok (.aload_n 0, 1) := by decide +kernel
theorem dX6_readUnit_27 : decode cX6_readUnit 27 = .ok (.getfield 161, 3) := by decide +kernel
theorem dX6_readUnit_30 : decode cX6_readUnit 30 = .ok (.iconst 3, 1) := by decide +kernel
theorem dX6_readUnit_31 : decode cX6_readUnit 31 = .ok (.if_icmp .eq 9, 3) := by decide +kernel
theorem dX6_readUnit_34 : decode cX6_readUnit 34 = .ok (.aload_n 0, 1) := by decide +kernel
theorem dX6_readUnit_35 : decode cX6_readUnit 35 = .ok (.iconst 1, 1) := by decide +kernel
theorem dX6_readUnit_36 : decode cX6_readUnit 36 = .ok (.invokevirtual 188, 3) := by decide +kernel
theorem dX6_readUnit_39 : decode cX6_readUnit 39 = .ok (.ireturn, 1) := by decide +kernel
theorem dX6_readUnit_40 : decode cX6_readUnit 40 = .ok (.aload_n 0, 1) := by decide +kernel
theorem dX6_readUnit_41 : decode cX6_readUnit 41 = .ok (.iload_n 1, 1) := by decide +kernel
theorem dX6_readUnit_42 : decode cX6_readUnit 42 = .ok (.ifCond .eq 7, 3) := by decide +kernel
theorem dX6_readUnit_45 : decode cX6_readUnit 45 = .ok (.iconst 1, 1) := by decide +kernel
theorem dX6_readUnit_46 : decode cX6_readUnit 46 = .ok (.goto 4, 3) := by decide +kernel
theorem dX6_readUnit_49 : decode cX6_readUnit 49 = .ok (.iconst 0, 1) := by decide +kernel
theorem dX6_readUnit_50 : decode cX6_readUnit 50 = .ok (.iload_n 1, 1) := by decide +kernel
theorem dX6_readUnit_51 : decode cX6_readUnit 51 = .ok (.ifCond .eq 12, 3) := by decide +kernel
theorem dX6_readUnit_54 : decode cX6_readUnit 54 = .ok (.aload_n 0, 1) := by decide +kernel
theorem dX6_readUnit_55 : decode cX6_readUnit 55 = .ok (.getfield 164, 3) := by decide +kernel
theorem dX6_readUnit_58 : decode cX6_readUnit 58 = .ok (.iconst 5, 1) := by decide +kernel
theorem dX6_readUnit_59 : decode cX6_readUnit 59 = .ok (.isub, 1) := by decide +kernel
theorem dX6_readUnit_60 : decode cX6_readUnit 60 = .ok (.goto 7, 3) := by decide +kernel
theorem dX6_readUnit_63 : decode cX6_readUnit 63 = .ok (.aload_n 0, 1) := by decide +kernel
theorem dX6_readUnit_64 : decode cX6_readUnit 64 = .ok (.getfield 164, 3) := by decide +kernel
theorem dX6_readUnit_67 : decode cX6_readUnit 67 = .ok (.invokevirtual 191, 3) := by decide +kernel
theorem dX6_readUnit_70 : decode cX6_readUnit 70 = .ok (.aload_n 0, 1) := by decide +kernel
theorem dX6_readUnit_71 : decode cX6_readUnit 71 = .ok (.invokevirtual 195, 3) := by decide +kernel
theorem dX6_readUnit_74 : decode cX6_readUnit 74 = .ok (.iconst 0, 1) := by decide +kernel
theorem dX6_readUnit_75 : decode cX6_readUnit 75 = .ok (.ireturn, 1) := by decide +kernel
set_option maxRecDepth 20000 in
theorem ggX6_readProduct_X6_readUnit : GoodIn wsX6_readProduct wsX6_readUnit := goodIn_r _ [7, 1, 2, 8, 9, 10, 6, 11, 12, 13, 14, 15, 16, 17, 18, 19, 20, 21, 22, 23, 24, 25, 26, 27, 28, 29, 30, 31, 32, 33, 34, 35, 36, 37, 38, 39, 40, 41, 42, 43, 44, 45, 46, 47, 48, 49, 50, 51, 52, 53, 58, 59, 60, 61, 62, 63, 64, 65, 66, 67, 68, 69, 70, 71, 72, 73, 74, 75, 76, 77, 78, 79, 80, 81, 82, 83, 84, 85, 86, 87, 88, 89, 90, 91, 92, 93, 94, 95, 96, 97, 98, 99, 100, 101, 102, 103, 104, 105, 106, 107, 108, 109, 110, 111, 112] rfl (by decide +kernel)
set_option maxRecDepth 20000 in
theorem gX6_readProduct_X6_readUnit : GoodIn wsX6_readProduct (wsV RX6 198 RX6 yX6_readUnit wsX6_readUnit) := goodIn_app (goodIn_of _ (by decide +kernel)) ggX6_readProduct_X6_readUnit
set_option maxRecDepth 20000 in
theorem ggX6_readProduct_X6_isSign : GoodIn wsX6_readProduct wsX6_isSign := goodIn_r _ [57, 1, 2, 58, 59, 60, 61, 62, 63, 64, 65, 66, 67, 68, 69, 70, 71, 72, 73, 74, 75, 76, 77, 78, 79, 80, 81, 82, 83, 84, 85, 86, 87, 88, 89, 90, 91, 92, 93, 94, 95, 96, 97, 98, 99, 100, 101, 102, 103, 104, 105, 106, 107, 108, 109, 110, 111, 112] rfl (by decide +kernel)
set_option maxRecDepth 20000 in
theorem gX6_readProduct_X6_isSign : GoodIn wsX6_readProduct (wsV RX6 202 RX6 yX6_isSign wsX6_isSign) := goodIn_app (goodIn_of _ (by decide +kernel)) ggX6_readProduct_X6_isSign
set_option maxRecDepth 20000 in
theorem ggX6_readProduct_X6_reads : GoodIn wsX6_readProduct wsX6_reads := goodIn_r _ [25, 26, 13, 1, 2, 27, 28, 29, 6, 30, 31, 32, 33, 34, 35, 36, 37, 38, 39, 40, 41, 42, 43, 44, 45, 46, 47, 48, 49, 50, 51, 52, 53, 58, 59, 60, 61, 62, 63, 64, 65, 66, 67, 68, 69, 70, 71, 72, 73, 74, 75, 76, 77, 78, 79, 80, 81, 82, 83, 84, 85, 86, 87, 88, 89, 90, 91, 92, 93, 94, 95, 96, 97, 98, 99, 100, 101, 102, 103, 104, 105, 106, 107, 108, 109, 110, 111, 112] rfl (by decide +kernel)
set_option maxRecDepth 20000 in
theorem gX6_readProduct_X6_reads : GoodIn wsX6_readProduct (wsV RX6 195 RX6 yX6_reads wsX6_reads) := goodIn_app (goodIn_of _ (by decide +kernel)) ggX6_readProduct_X6_reads
set_option maxRecDepth 20000 in
theorem ggX6_readProduct_X6_errs : GoodIn wsX6_readProduct wsX6_errs := goodIn_r _ [11, 12, 13, 14, 58, 59, 60, 61, 62, 63, 64, 65, 66, 67, 68, 69, 70, 71, 72, 73, 74, 75, 76, 77, 78, 79, 80, 81, 82, 83, 84, 85, 86, 87, 88, 89, 90, 91, 92, 93, 94, 95, 96, 97, 98, 99, 100, 101, 102, 103, 104, 105, 106, 107, 108, 109, 110, 111, 112] rfl (by decide +kernel)
set_option maxRecDepth 20000 in
theorem gX6_readProduct_X6_errs : GoodIn wsX6_readProduct (wsV RX6 188 RX6 yX6_errs wsX6_errs) := goodIn_app (goodIn_of _ (by decide +kernel)) ggX6_readProduct_X6_errs
set_option maxRecDepth 20000 in
theorem ggX6_readProduct_X6_emits : GoodIn wsX6_readProduct wsX6_emits := goodIn_r _ [18, 19, 20, 21, 58, 59, 60, 61, 62, 63, 64, 65, 66, 67, 68, 69, 70, 71, 72, 73, 74, 75, 76, 77, 78, 79, 80, 81, 82, 83, 84, 85, 86, 87, 88, 89, 90, 91, 92, 93, 94, 95, 96, 97, 98, 99, 100, 101, 102, 103, 104, 105, 106, 107, 108, 109, 110, 111, 112] rfl (by decide +kernel)
set_option maxRecDepth 20000 in
theorem gX6_readProduct_X6_emits : GoodIn wsX6_readProduct (wsV RX6 191 RX6 yX6_emits wsX6_emits) := goodIn_app (goodIn_of _ (by decide +kernel)) ggX6_readProduct_X6_emits
theorem dX6_readProduct_0 : decode cX6_readProduct 0 = .ok (.aload_n 0, 1) := by decide +kernel
theorem dX6_readProduct_1 : decode cX6_readProduct 1 = .ok (.invokevirtual 198, 3) := by decide +kernel
theorem dX6_readProduct_4 : decode cX6_readProduct 4 = .ok (.iconst (-1), 1) := by decide +kernel
theorem dX6_readProduct_5 : decode cX6_readProduct 5 = .ok (.if_icmp .ne 5, 3) := by decide +kernel
theorem dX6_readProduct_8 : decode cX6_readProduct 8 = .ok (.iconst (-1), 1) := by decide +kernel
theorem dX6_readProduct_9 : decode cX6_readProduct 9 = .ok (.ireturn, 1) := by decide +kernel
theorem dX6_readProduct_10 : decode cX6_readProduct 10 = .ok (.aload_n 0, 1) := by decide +kernel
theorem dX6_readProduct_11 : decode cX6_readProduct 11 = .ok (.bipush 42, 2) := by decide +kernel
theorem dX6_readProduct_13 : decode cX6_readProduct 13 = .ok (.invokevirtual 202, 3) := by decide +kernel
theorem dX6_readProduct_16 : decode cX6_readProduct 16 = .ok (.ifCond .ne 12, 3) := by decide +kernel
theorem dX6_readProduct_19 : decode cX6_readProduct 19 = .ok (.aload_n 0, 1) := by decide +kernel
theorem dX6_readProduct_20 : decode cX6_readProduct 20 = .ok (.bipush 47, 2) := by decide +kernel
theorem dX6_readProduct_22 : decode cX6_readProduct 22 = .ok (.invokevirtual 202, 3) := by decide +kernel
theorem dX6_readProduct_25 : decode cX6_readProduct 25 = .ok (.ifCond .eq 76, 3) := by decide +kernel
theorem dX6_readProduct_28 : decode cX6_readProduct 28 = .ok (.aload_n 0, 1) := by decide +kernel
theorem dX6_readProduct_29 : decode cX6_readProduct 29 = .ok (.bipush 42, 2) := by decide +kernel
theorem dX6_readProduct_31 : decode cX6_readProduct 31 = .ok (.invokevirtual 202, 3) := by decide +kernel
theorem dX6_readProduct_34 : decode cX6_readProduct 34 = .ok (.istore_n 1, 1) := by decide +kernel
theorem dX6_readProduct_35 : decode cX6_readProduct 35 = .ok (.aload_n 0, 1) := by decide +kernel
theorem dX6_readProduct_36 : decode cX6_readProduct 36 = .ok (.invokevirtual 195, 3) := by decide +kernel
theorem dX6_readProduct_39 : decode cX6_readProduct 39 = .ok (.iload_n 1, 1) := by decide +kernel
theorem dX6_readProduct_40 : decode cX6_readProduct 40 = .ok (.ifCond .ne 17, 3) := by decide +kernel
theorem dX6_readProduct_43 : decode cX6_readProduct 43 = .ok (.aload_n 0, 1) := by decide +kernel
theorem dX6_readProduct_44 : decode cX6_readProduct 44 = .ok (.getfield 161, 3) := by decide +kernel
theorem dX6_readProduct_47 : decode cX6_readProduct 47 = .ok (.iconst 3, 1) := by decide +kernel
theorem dX6_readProduct_48 : decode cX6_readProduct 48 = .ok (.if_icmp .eq 9, 3) := by decide +kernel
theorem dX6_readProduct_51 : decode cX6_readProduct 51 = .ok (.aload_n 0, 1) := by decide +kernel
theorem dX6_readProduct_52 : decode cX6_readProduct 52 = .ok (.iconst 1, 1) := by decide +kernel
theorem dX6_readProduct_53 : decode cX6_readProduct 53 = .ok (.invokevirtual 188, 3) := by decide +kernel
theorem dX6_readProduct_56 : decode cX6_readProduct 56 = .ok (.ireturn, 1) := by decide +kernel
theorem dX6_readProduct_57 : decode cX6_readProduct 57 = .ok (.iload_n 1, 1) := by decide +kernel
theorem dX6_readProduct_58 : decode cX6_readProduct 58 = .ok (.ifCond .ne 16, 3) := by decide +kernel
theorem dX6_readProduct_61 : decode cX6_readProduct 61 = .ok (.aload_n 0, 1) := by decide +kernel
theorem dX6_readProduct_62 : decode cX6_readProduct 62 = .ok (.getfield 164, 3) := by decide +kernel
theorem dX6_readProduct_65 : decode cX6_readProduct 65 = .ok (.ifCond .ne 9, 3) := by decide +kernel
theorem dX6_readProduct_68 : decode cX6_readProduct 68 = .ok (.aload_n 0, 1) := by decide +kernel
theorem dX6_readProduct_69 : decode cX6_readProduct 69 = .ok (.iconst 2, 1) := by decide +kernel
theorem dX6_readProduct_70 : decode cX6_readProduct 70 = .ok (.invokevirtual 188, 3) := by decide +kernel
theorem dX6_readProduct_73 : decode cX6_readProduct 73 = .ok (.ireturn, 1) := by decide +kernel
theorem dX6_readProduct_74 : decode cX6_readProduct 74 = .ok (.aload_n 0, 1) := by decide +kernel
theorem dX6_readProduct_75 : decode cX6_readProduct 75 = .ok (.invokevirtual 198, 3) := by decide +kernel
theorem dX6_readProduct_78 : decode cX6_readProduct 78 = .ok (.iconst (-1), 1) := by decide +kernel
theorem dX6_readProduct_79 : decode cX6_readProduct 79 = .ok (.if_icmp .ne 5, 3) := by decide +kernel
theorem dX6_readProduct_82 : decode cX6_readProduct 82 = .ok (.iconst (-1), 1) := by decide +kernel
theorem dX6_readProduct_83 : decode cX6_readProduct 83 = .ok (.ireturn, 1) := by decide +kernel
theorem dX6_readProduct_84 : decode cX6_readProduct 84 = .ok (.aload_n 0, 1) := by decide +kernel
theorem dX6_readProduct_85 : decode cX6_readProduct 85 = .ok (.iload_n 1, 1) := by decide +kernel
theorem dX6_readProduct_86 : decode cX6_readProduct 86 = .ok (.ifCond .eq 7, 3) := by decide +kernel
theorem dX6_readProduct_89 : decode cX6_readProduct 89 = .ok (.iconst 4, 1) := by decide +kernel
theorem dX6_readProduct_90 : decode cX6_readProduct 90 = .ok (.goto 4, 3) := by decide +kernel
theorem dX6_readProduct_93 : decode cX6_readProduct 93 = .ok (.iconst 5, 1) := by decide +kernel
theorem dX6_readProduct_94 : decode cX6_readProduct 94 = .ok (.iconst 0, 1) := by decide +kernel
theorem dX6_readProduct_95 : decode cX6_readProduct 95 = .ok (.invokevirtual 191, 3) := by decide +kernel
theorem dX6_readProduct_98 : decode cX6_readProduct 98 = .ok (.goto (-88), 3) := by decide +kernel
theorem dX6_readProduct_101 : decode cX6_readProduct 101 = .ok (.iconst 0, 1) := by decide +kernel
theorem dX6_readProduct_102 : decode cX6_readProduct 102 = .ok (.ireturn, 1) := by decide +kernel
set_option maxRecDepth 20000 in
theorem ggX6_readSum_X6_readProduct : GoodIn wsX6_readSum wsX6_readProduct := goodIn_r _ [6, 7, 1, 8, 9, 10, 5, 11, 12, 13, 14, 15, 16, 17, 18, 19, 20, 21, 22, 23, 24, 25, 26, 27, 28, 29, 30, 31, 32, 33, 34, 35, 36, 37, 38, 39, 40, 41, 42, 43, 44, 45, 46, 47, 48, 49, 50, 51, 52, 53, 54, 55, 56, 57, 58, 59, 60, 61, 62, 63, 64, 65, 66, 67, 68, 69, 70, 71, 72, 73, 74, 75, 76, 77, 78, 79, 80, 81, 82, 83, 84, 85, 86, 87, 88, 89, 90, 91, 92, 93, 94, 95, 96, 97, 98, 99, 100, 101, 102, 103, 104, 105, 106, 107, 108, 109, 110, 111, 112, 113, 114, 115, 116] rfl (by decide +kernel)
set_option maxRecDepth 20000 in
theorem gX6_readSum_X6_readProduct : GoodIn wsX6_readSum (wsV RX6 205 RX6 yX6_readProduct wsX6_readProduct) := goodIn_app (goodIn_of _ (by decide +kernel)) ggX6_readSum_X6_readProduct
set_option maxRecDepth 20000 in
theorem ggX6_readSum_X6_isSign : GoodIn wsX6_readSum wsX6_isSign := goodIn_r _ [61, 7, 1, 62, 63, 64, 65, 66, 67, 68, 69, 70, 71, 72, 73, 74, 75, 76, 77, 78, 79, 80, 81, 82, 83, 84, 85, 86, 87, 88, 89, 90, 91, 92, 93, 94, 95, 96, 97, 98, 99, 100, 101, 102, 103, 104, 105, 106, 107, 108, 109, 110, 111, 112, 113, 114, 115, 116] rfl (by decide +kernel)
set_option maxRecDepth 20000 in
theorem gX6_readSum_X6_isSign : GoodIn wsX6_readSum (wsV RX6 202 RX6 yX6_isSign wsX6_isSign) := goodIn_app (goodIn_of _ (by decide +kernel)) ggX6_readSum_X6_isSign
set_option maxRecDepth 20000 in
theorem ggX6_readSum_X6_reads : GoodIn wsX6_readSum wsX6_reads := goodIn_r _ [29, 30, 17, 7, 1, 31, 32, 33, 5, 34, 35, 36, 37, 38, 39, 40, 41, 42, 43, 44, 45, 46, 47, 48, 49, 50, 51, 52, 53, 54, 55, 56, 57, 62, 63, 64, 65, 66, 67, 68, 69, 70, 71, 72, 73, 74, 75, 76, 77, 78, 79, 80, 81, 82, 83, 84, 85, 86, 87, 88, 89, 90, 91, 92, 93, 94, 95, 96, 97, 98, 99, 100, 101, 102, 103, 104, 105, 106, 107, 108, 109, 110, 111, 112, 113, 114, 115, 116] rfl (by decide +kernel)
set_option maxRecDepth 20000 in
theorem gX6_readSum_X6_reads : GoodIn wsX6_readSum (wsV RX6 195 RX6 yX6_reads wsX6_reads) := goodIn_app (goodIn_of _ (by decide +kernel)) ggX6_readSum_X6_reads
set_option maxRecDepth 20000 in
theorem ggX6_readSum_X6_emits : GoodIn wsX6_readSum wsX6_emits := goodIn_r _ [22, 23, 24, 25, 62, 63, 64, 65, 66, 67, 68, 69, 70, 71, 72, 73, 74, 75, 76, 77, 78, 79, 80, 81, 82, 83, 84, 85, 86, 87, 88, 89, 90, 91, 92, 93, 94, 95, 96, 97, 98, 99, 100, 101, 102, 103, 104, 105, 106, 107, 108, 109, 110, 111, 112, 113, 114, 115, 116] rfl (by decide +kernel)
set_option maxRecDepth 20000 in
theorem gX6_readSum_X6_emits : GoodIn wsX6_readSum (wsV RX6 191 RX6 yX6_emits wsX6_emits) := goodIn_app (goodIn_of _ (by decide +kernel)) ggX6_readSum_X6_emits
theorem dX6_readSum_0 : decode cX6_readSum 0 = .ok (.aload_n 0, 1) := by decide +kernel
theorem dX6_readSum_1 : decode cX6_readSum 1 = .ok (.invokevirtual 205, 3) := by decide +kernel
theorem dX6_readSum_4 : decode cX6_readSum 4 = .ok (.iconst (-1), 1) := by decide +kernel
theorem dX6_readSum_5 : decode cX6_readSum 5 = .ok (.if_icmp .ne 5, 3) := by decide +kernel
theorem dX6_readSum_8 : decode cX6_readSum 8 = .ok (.iconst (-1), 1) := by decide +kernel
theorem dX6_readSum_9 : decode cX6_readSum 9 = .ok (.ireturn, 1) := by decide +kernel
theorem dX6_readSum_10 : decode cX6_readSum 10 = .ok (.aload_n 0, 1) := by decide +kernel
theorem dX6_readSum_11 : decode cX6_readSum 11 = .ok (.bipush 43, 2) := by decide +kernel
theorem dX6_readSum_13 : decode cX6_readSum 13 = .ok (.invokevirtual 202, 3) := by decide +kernel
theorem dX6_readSum_16 : decode cX6_readSum 16 = .ok (.ifCond .ne 12, 3) := by decide +kernel
theorem dX6_readSum_19 : decode cX6_readSum 19 = .ok (.aload_n 0, 1) := by decide +kernel
theorem dX6_readSum_20 : decode cX6_readSum 20 = .ok (.bipush 45, 2) := by decide +kernel
theorem dX6_readSum_22 : decode cX6_readSum 22 = .ok (.invokevirtual 202, 3) := by decide +kernel
theorem dX6_readSum_25 : decode cX6_readSum 25 = .ok (.ifCond .eq 41, 3) := by decide +kernel
theorem dX6_readSum_28 : decode cX6_readSum 28 = .ok (.aload_n 0, 1) := by decide +kernel
theorem dX6_readSum_29 : decode cX6_readSum 29 = .ok (.getfield 164, 3) := by decide +kernel
theorem dX6_readSum_32 : decode cX6_readSum 32 = .ok (.bipush 43, 2) := by decide +kernel
theorem dX6_readSum_34 : decode cX6_readSum 34 = .ok (.if_icmp .ne 7, 3) := by decide +kernel
theorem dX6_readSum_37 : decode cX6_readSum 37 = .ok (.iconst 2, 1) := by decide +kernel
theorem dX6_readSum_38 : decode cX6_readSum 38 = .ok (.goto 4, 3) := by decide +kernel
theorem dX6_readSum_41 : decode cX6_readSum 41 = .ok (.iconst 3, 1) := by decide +kernel
theorem dX6_readSum_42 : decode cX6_readSum 42 = .ok (.istore_n 1, 1) := by decide +kernel
theorem dX6_readSum_43 : decode cX6_readSum 43 = .ok (.aload_n 0, 1) := by decide +kernel
theorem dX6_readSum_44 : decode cX6_readSum 44 = .ok (.invokevirtual 195, 3) := by decide +kernel
theorem dX6_readSum_47 : decode cX6_readSum 47 = .ok (.aload_n 0, 1) := by decide +kernel
theorem dX6_readSum_48 : decode cX6_readSum 48 = .ok (.invokevirtual 205, 3) := by decide +kernel
theorem dX6_readSum_51 : decode cX6_readSum 51 = .ok (.iconst (-1), 1) := by decide +kernel
theorem dX6_readSum_52 : decode cX6_readSum 52 = .ok (.if_icmp .ne 5, 3) := by decide +kernel
theorem dX6_readSum_55 : decode cX6_readSum 55 = .ok (.iconst (-1), 1) := by decide +kernel
theorem dX6_readSum_56 : decode cX6_readSum 56 = .ok (.ireturn, 1) := by decide +kernel
theorem dX6_readSum_57 : decode cX6_readSum 57 = .ok (.aload_n 0, 1) := by decide +kernel
theorem dX6_readSum_58 : decode cX6_readSum 58 = .ok (.iload_n 1, 1) := by decide +kernel
theorem dX6_readSum_59 : decode cX6_readSum 59 = .ok (.iconst 0, 1) := by decide +kernel
theorem dX6_readSum_60 : decode cX6_readSum 60 = .ok (.invokevirtual 191, 3) := by decide +kernel
theorem dX6_readSum_63 : decode cX6_readSum 63 = .ok (.goto (-53), 3) := by decide +kernel
theorem dX6_readSum_66 : decode cX6_readSum 66 = .ok (.iconst 0, 1) := by decide +kernel
theorem dX6_readSum_67 : decode cX6_readSum 67 = .ok (.ireturn, 1) := by decide +kernel
set_option maxRecDepth 20000 in
theorem ggX6_readCompared_X6_readSum : GoodIn wsX6_readCompared wsX6_readSum := goodIn_r _ [6, 1, 7, 8, 9, 5, 10, 11, 12, 13, 14, 15, 16, 17, 18, 19, 20, 21, 22, 23, 24, 25, 26, 27, 28, 29, 30, 31, 32, 33, 34, 35, 36, 37, 38, 39, 40, 41, 42, 43, 44, 45, 46, 47, 48, 49, 50, 51, 52, 53, 54, 55, 56, 57, 58, 59, 60, 61, 62, 63, 64, 65, 66, 67, 68, 69, 70, 71, 72, 73, 74, 75, 76, 77, 78, 79, 80, 81, 82, 83, 84, 85, 86, 87, 88, 89, 90, 91, 92, 93, 94, 95, 96, 97, 98, 99, 100, 101, 102, 103, 104, 105, 106, 107, 108, 109, 110, 111, 112, 113, 114, 115, 116, 117, 118, 119, 120] rfl (by decide +kernel)
set_option maxRecDepth 20000 in
theorem gX6_readCompared_X6_readSum : GoodIn wsX6_readCompared (wsV RX6 208 RX6 yX6_readSum wsX6_readSum) := goodIn_app (goodIn_of _ (by decide +kernel)) ggX6_readCompared_X6_readSum
set_option maxRecDepth 20000 in
theorem ggX6_readCompared_X6_isSign : GoodIn wsX6_readCompared wsX6_isSign := goodIn_r _ [65, 11, 1, 66, 67, 68, 69, 70, 71, 72, 73, 74, 75, 76, 77, 78, 79, 80, 81, 82, 83, 84, 85, 86, 87, 88, 89, 90, 91, 92, 93, 94, 95, 96, 97, 98, 99, 100, 101, 102, 103, 104, 105, 106, 107, 108, 109, 110, 111, 112, 113, 114, 115, 116, 117, 118, 119, 120] rfl (by decide +kernel)
set_option maxRecDepth 20000 in
theorem gX6_readCompared_X6_isSign : GoodIn wsX6_readCompared (wsV RX6 202 RX6 yX6_isSign wsX6_isSign) := goodIn_app (goodIn_of _ (by decide +kernel)) ggX6_readCompared_X6_isSign
set_option maxRecDepth 20000 in
theorem ggX6_readCompared_X6_errs : GoodIn wsX6_readCompared wsX6_errs := goodIn_r _ [19, 20, 21, 22, 66, 67, 68, 69, 70, 71, 72, 73, 74, 75, 76, 77, 78, 79, 80, 81, 82, 83, 84, 85, 86, 87, 88, 89, 90, 91, 92, 93, 94, 95, 96, 97, 98, 99, 100, 101, 102, 103, 104, 105, 106, 107, 108, 109, 110, 111, 112, 113, 114, 115, 116, 117, 118, 119, 120] rfl (by decide +kernel)
set_option maxRecDepth 20000 in
theorem gX6_readCompared_X6_errs : GoodIn wsX6_readCompared (wsV RX6 188 RX6 yX6_errs wsX6_errs) := goodIn_app (goodIn_of _ (by decide +kernel)) ggX6_readCompared_X6_errs
set_option maxRecDepth 20000 in
theorem ggX6_readCompared_X6_reads : GoodIn wsX6_readCompared wsX6_reads := goodIn_r _ [33, 34, 21, 11, 1, 35, 36, 37, 5, 38, 39, 40, 41, 42, 43, 44, 45, 46, 47, 48, 49, 50, 51, 52, 53, 54, 55, 56, 57, 58, 59, 60, 61, 66, 67, 68, 69, 70, 71, 72, 73, 74, 75, 76, 77, 78, 79, 80, 81, 82, 83, 84, 85, 86, 87, 88, 89, 90, 91, 92, 93, 94, 95, 96, 97, 98, 99, 100, 101, 102, 103, 104, 105, 106, 107, 108, 109, 110, 111, 112, 113, 114, 115, 116, 117, 118, 119, 120] rfl (by decide +kernel)
set_option maxRecDepth 20000 in
theorem gX6_readCompared_X6_reads : GoodIn wsX6_readCompared (wsV RX6 195 RX6 yX6_reads wsX6_reads) := goodIn_app (goodIn_of _ (by decide +kernel)) ggX6_readCompared_X6_reads
set_option maxRecDepth 20000 in
theorem ggX6_readCompared_X6_emits : GoodIn wsX6_readCompared wsX6_emits := goodIn_r _ [26, 27, 28, 29, 66, 67, 68, 69, 70, 71, 72, 73, 74, 75, 76, 77, 78, 79, 80, 81, 82, 83, 84, 85, 86, 87, 88, 89, 90, 91, 92, 93, 94, 95, 96, 97, 98, 99, 100, 101, 102, 103, 104, 105, 106, 107, 108, 109, 110, 111, 112, 113, 114, 115, 116, 117, 118, 119, 120] rfl (by decide +kernel)
set_option maxRecDepth 20000 in
theorem gX6_readCompared_X6_emits : GoodIn wsX6_readCompared (wsV RX6 191 RX6 yX6_emits wsX6_emits) := goodIn_app (goodIn_of _ (by decide +kernel)) ggX6_readCompared_X6_emits
theorem dX6_readCompared_0 : decode cX6_readCompared 0 = .ok (.aload_n 0, 1) := by decide +kernel
theorem dX6_readCompared_1 : decode cX6_readCompared 1 = .ok (.invokevirtual 208, 3) := by decide +kernel
theorem dX6_readCompared_4 : decode cX6_readCompared 4 = .ok (.iconst (-1), 1) := by decide +kernel
theorem dX6_readCompared_5 : decode cX6_readCompared 5 = .ok (.if_icmp .ne 5, 3) := by decide +kernel
theorem dX6_readCompared_8 : decode cX6_readCompared 8 = .ok (.iconst (-1), 1) := by decide +kernel
theorem dX6_readCompared_9 : decode cX6_readCompared 9 = .ok (.ireturn, 1) := by decide +kernel
theorem dX6_readCompared_10 : decode cX6_readCompared 10 = .ok (.aload_n 0, 1) := by decide +kernel
theorem dX6_readCompared_11 : decode cX6_readCompared 11 = .ok (.bipush 60, 2) := by decide +kernel
theorem dX6_readCompared_13 : decode cX6_readCompared 13 = .ok (.invokevirtual 202, 3) := by decide +kernel
theorem dX6_readCompared_16 : decode cX6_readCompared 16 = .ok (.ifCond .ne 27, 3) := by decide +kernel
theorem dX6_readCompared_19 : decode cX6_readCompared 19 = .ok (.aload_n 0, 1) := by decide +kernel
theorem dX6_readCompared_20 : decode cX6_readCompared 20 = .ok (.bipush 61, 2) := by decide +kernel
theorem dX6_readCompared_22 : decode cX6_readCompared 22 = .ok (.invokevirtual 202, 3) := by decide +kernel
theorem dX6_readCompared_25 : decode cX6_readCompared 25 = .ok (.ifCond .ne 18, 3) := by decide +kernel
theorem dX6_readCompared_28 : decode cX6_readCompared 28 = .ok (.aload_n 0, 1) := by decide +kernel
theorem dX6_readCompared_29 : decode cX6_readCompared 29 = .ok (.bipush 62, 2) := by decide +kernel
theorem dX6_readCompared_31 : decode cX6_readCompared 31 = .ok (.invokevirtual 202, 3) := by decide +kernel
theorem dX6_readCompared_34 : decode cX6_readCompared 34 = .ok (.ifCond .ne 9, 3) := by decide +kernel
theorem dX6_readCompared_37 : decode cX6_readCompared 37 = .ok (.aload_n 0, 1) := by decide +kernel
theorem dX6_readCompared_38 : decode cX6_readCompared 38 = .ok (.iconst 1, 1) := by decide +kernel
theorem dX6_readCompared_39 : decode cX6_readCompared 39 = .ok (.invokevirtual 188, 3) := by decide +kernel
theorem dX6_readCompared_42 : decode cX6_readCompared 42 = .ok (.ireturn, 1) := by decide +kernel
theorem dX6_readCompared_43 : decode cX6_readCompared 43 = .ok (.aload_n 0, 1) := by decide +kernel
theorem dX6_readCompared_44 : decode cX6_readCompared 44 = .ok (.getfield 164, 3) := by decide +kernel
theorem dX6_readCompared_47 : decode cX6_readCompared 47 = .ok (.bipush 60, 2) := by decide +kernel
theorem dX6_readCompared_49 : decode cX6_readCompared 49 = .ok (.if_icmp .ne 8, 3) := by decide +kernel
theorem dX6_readCompared_52 : decode cX6_readCompared 52 = .ok (.bipush 6, 2) := by decide +kernel
theorem dX6_readCompared_54 : decode cX6_readCompared 54 = .ok (.goto 19, 3) := by decide +kernel
theorem dX6_readCompared_57 : decode cX6_readCompared 57 = .ok (.aload_n 0, 1) := by decide +kernel
theorem dX6_readCompared_58 : decode cX6_readCompared 58 = .ok (.getfield 164, 3) := by decide +kernel
theorem dX6_readCompared_61 : decode cX6_readCompared 61 = .ok (.bipush 61, 2) := by decide +kernel
theorem dX6_readCompared_63 : decode cX6_readCompared 63 = .ok (.if_icmp .ne 8, 3) := by decide +kernel
theorem dX6_readCompared_66 : decode cX6_readCompared 66 = .ok (.bipush 7, 2) := by decide +kernel
theorem dX6_readCompared_68 : decode cX6_readCompared 68 = .ok (.goto 5, 3) := by decide +kernel
theorem dX6_readCompared_71 : decode cX6_readCompared 71 = .ok (.bipush 8, 2) := by decide +kernel
theorem dX6_readCompared_73 : decode cX6_readCompared 73 = .ok (.istore_n 1, 1) := by decide +kernel
theorem dX6_readCompared_74 : decode cX6_readCompared 74 = .ok (.aload_n 0, 1) := by decide +kernel
theorem dX6_readCompared_75 : decode cX6_readCompared 75 = .ok (.invokevirtual 195, 3) := by decide +kernel
theorem dX6_readCompared_78 : decode cX6_readCompared 78 = .ok (.aload_n 0, 1) := by decide +kernel
theorem dX6_readCompared_79 : decode cX6_readCompared 79 = .ok (.invokevirtual 208, 3) := by decide +kernel
theorem dX6_readCompared_82 : decode cX6_readCompared 82 = .ok (.iconst (-1), 1) := by decide +kernel
theorem dX6_readCompared_83 : decode cX6_readCompared 83 = .ok (.if_icmp .ne 5, 3) := by decide +kernel
theorem dX6_readCompared_86 : decode cX6_readCompared 86 = .ok (.iconst (-1), 1) := by decide +kernel
theorem dX6_readCompared_87 : decode cX6_readCompared 87 = .ok (.ireturn, 1) := by decide +kernel
theorem dX6_readCompared_88 : decode cX6_readCompared 88 = .ok (.aload_n 0, 1) := by decide +kernel
theorem dX6_readCompared_89 : decode cX6_readCompared 89 = .ok (.iload_n 1, 1) := by decide +kernel
theorem dX6_readCompared_90 : decode cX6_readCompared 90 = .ok (.iconst 0, 1) := by decide +kernel
theorem dX6_readCompared_91 : decode cX6_readCompared 91 = .ok (.invokevirtual 191, 3) := by decide +kernel
theorem dX6_readCompared_94 : decode cX6_readCompared 94 = .ok (.iconst 0, 1) := by decide +kernel
theorem dX6_readCompared_95 : decode cX6_readCompared 95 = .ok (.ireturn, 1) := by decide +kernel
theorem dX6_waits_0 : decode cX6_waits 0 = .ok (.aload_n 0, 1) := by decide +kernel
theorem dX6_waits_1 : decode cX6_waits 1 = .ok (.getfield 80, 3) := by decide +kernel
theorem dX6_waits_4 : decode cX6_waits 4 = .ok (.aload_n 0, 1) := by decide +kernel
theorem dX6_waits_5 : decode cX6_waits 5 = .ok (.getfield 211, 3) := by decide +kernel
theorem dX6_waits_8 : decode cX6_waits 8 = .ok (.iload_n 1, 1) := by decide +kernel
theorem dX6_waits_9 : decode cX6_waits 9 = .ok (.iastore, 1) := by decide +kernel
theorem dX6_waits_10 : decode cX6_waits 10 = .ok (.aload_n 0, 1) := by decide +kernel
theorem dX6_waits_11 : decode cX6_waits 11 = .ok (.aload_n 0, 1) := by decide +kernel
theorem dX6_waits_12 : decode cX6_waits 12 = .ok (.getfield 211, 3) := by decide +kernel
theorem dX6_waits_15 : decode cX6_waits 15 = .ok (.iconst 1, 1) := by decide +kernel
theorem dX6_waits_16 : decode cX6_waits 16 = .ok (.iadd, 1) := by decide +kernel
theorem dX6_waits_17 : decode cX6_waits 17 = .ok (.putfield 211, 3) := by decide +kernel
theorem dX6_waits_20 : decode cX6_waits 20 = .ok (.return_, 1) := by decide +kernel
set_option maxRecDepth 20000 in
theorem ggX6_settles_X6_emits : GoodIn wsX6_settles wsX6_emits := goodIn_r _ [8, 9, 10, 11, 12, 13, 14, 15, 16, 17, 18, 19, 20, 21, 22, 23, 24, 25, 26, 27, 28, 29, 30, 31, 32, 33, 34, 35, 36, 37, 38, 39, 40, 41, 42, 43, 44, 45, 46, 47, 48, 49, 50, 51, 52, 53, 54, 55, 56, 57, 58, 59, 60, 61, 62, 63, 64, 65, 66] rfl (by decide +kernel)
set_option maxRecDepth 20000 in
theorem gX6_settles_X6_emits : GoodIn wsX6_settles (wsV RX6 191 RX6 yX6_emits wsX6_emits) := goodIn_app (goodIn_of _ (by decide +kernel)) ggX6_settles_X6_emits
theorem dX6_settles_0 : decode cX6_settles 0 = .ok (.aload_n 0, 1) := by decide +kernel
theorem dX6_settles_1 : decode cX6_settles 1 = .ok (.getfield 211, 3) := by decide +kernel
theorem dX6_settles_4 : decode cX6_settles 4 = .ok (.ifCond .le 53, 3) := by decide +kernel
theorem dX6_settles_7 : decode cX6_settles 7 = .ok (.aload_n 0, 1) := by decide +kernel
theorem dX6_settles_8 : decode cX6_settles 8 = .ok (.getfield 80, 3) := by decide +kernel
theorem dX6_settles_11 : decode cX6_settles 11 = .ok (.aload_n 0, 1) := by decide +kernel
theorem dX6_settles_12 : decode cX6_settles 12 = .ok (.getfield 211, 3) := by decide +kernel
theorem dX6_settles_15 : decode cX6_settles 15 = .ok (.iconst 1, 1) := by decide +kernel
theorem dX6_settles_16 : decode cX6_settles 16 = .ok (.isub, 1) := by decide +kernel
theorem dX6_settles_17 : decode cX6_settles 17 = .ok (.iaload, 1) := by decide +kernel
theorem dX6_settles_18 : decode cX6_settles 18 = .ok (.iload_n 1, 1) := by decide +kernel
theorem dX6_settles_19 : decode cX6_settles 19 = .ok (.if_icmp .ne 38, 3) := by decide +kernel
theorem dX6_settles_22 : decode cX6_settles 22 = .ok (.aload_n 0, 1) := by decide +kernel
theorem dX6_settles_23 : decode cX6_settles 23 = .ok (.aload_n 0, 1) := by decide +kernel
theorem dX6_settles_24 : decode cX6_settles 24 = .ok (.getfield 211, 3) := by decide +kernel
theorem dX6_settles_27 : decode cX6_settles 27 = .ok (.iconst 1, 1) := by decide +kernel
theorem dX6_settles_28 : decode cX6_settles 28 = .ok (.isub, 1) := by decide +kernel
theorem dX6_settles_29 : decode cX6_settles 29 = .ok (.putfield 211, 3) := by decide +kernel
theorem dX6_settles_32 : decode cX6_settles 32 = .ok (.aload_n 0, 1) := by decide +kernel
theorem dX6_settles_33 : decode cX6_settles 33 = .ok (.iload_n 1, 1) := by decide +kernel
theorem dX6_settles_34 : decode cX6_settles 34 = .ok (.iconst 0, 1) := by decide +kernel
theorem dX6_settles_35 : decode cX6_settles 35 = .ok (.invokevirtual 191, 3) := by decide +kernel
theorem dX6_settles_38 : decode cX6_settles 38 = .ok (.iload_n 1, 1) := by decide +kernel
theorem dX6_settles_39 : decode cX6_settles 39 = .ok (.bipush 9, 2) := by decide +kernel
theorem dX6_settles_41 : decode cX6_settles 41 = .ok (.if_icmp .ne (-41), 3) := by decide +kernel
theorem dX6_settles_44 : decode cX6_settles 44 = .ok (.aload_n 0, 1) := by decide +kernel
theorem dX6_settles_45 : decode cX6_settles 45 = .ok (.aload_n 0, 1) := by decide +kernel
theorem dX6_settles_46 : decode cX6_settles 46 = .ok (.getfield 214, 3) := by decide +kernel
theorem dX6_settles_49 : decode cX6_settles 49 = .ok (.iconst 1, 1) := by decide +kernel
theorem dX6_settles_50 : decode cX6_settles 50 = .ok (.isub, 1) := by decide +kernel
theorem dX6_settles_51 : decode cX6_settles 51 = .ok (.putfield 214, 3) := by decide +kernel
theorem dX6_settles_54 : decode cX6_settles 54 = .ok (.goto (-54), 3) := by decide +kernel
theorem dX6_settles_57 : decode cX6_settles 57 = .ok (.return_, 1) := by decide +kernel
set_option maxRecDepth 20000 in
theorem ggX6_readAny_X6_isWord : GoodIn wsX6_readAny wsX6_isWord := goodIn_r _ [7, 8, 9, 85, 86, 87, 88, 89, 90, 91, 92, 93, 94, 95, 96, 97, 98, 99, 100, 101, 102, 103, 104, 105, 106, 107, 108, 109, 110, 111, 112, 113, 114, 115, 116, 117, 118, 119, 120, 121, 122, 123, 124, 125, 126, 127, 128, 129, 130, 131, 132, 133, 134, 135, 136, 137, 138, 139] rfl (by decide +kernel)
set_option maxRecDepth 20000 in
theorem gX6_readAny_X6_isWord : GoodIn wsX6_readAny (wsV RX6 217 RX6 yX6_isWord wsX6_isWord) := goodIn_app (goodIn_of _ (by decide +kernel)) ggX6_readAny_X6_isWord
set_option maxRecDepth 20000 in
theorem ggX6_readAny_X6_isSign : GoodIn wsX6_readAny wsX6_isSign := goodIn_r _ [13, 8, 9, 85, 86, 87, 88, 89, 90, 91, 92, 93, 94, 95, 96, 97, 98, 99, 100, 101, 102, 103, 104, 105, 106, 107, 108, 109, 110, 111, 112, 113, 114, 115, 116, 117, 118, 119, 120, 121, 122, 123, 124, 125, 126, 127, 128, 129, 130, 131, 132, 133, 134, 135, 136, 137, 138, 139] rfl (by decide +kernel)
set_option maxRecDepth 20000 in
theorem gX6_readAny_X6_isSign : GoodIn wsX6_readAny (wsV RX6 202 RX6 yX6_isSign wsX6_isSign) := goodIn_app (goodIn_of _ (by decide +kernel)) ggX6_readAny_X6_isSign
set_option maxRecDepth 20000 in
theorem ggX6_readAny_X6_errs : GoodIn wsX6_readAny wsX6_errs := goodIn_r _ [17, 18, 19, 20, 85, 86, 87, 88, 89, 90, 91, 92, 93, 94, 95, 96, 97, 98, 99, 100, 101, 102, 103, 104, 105, 106, 107, 108, 109, 110, 111, 112, 113, 114, 115, 116, 117, 118, 119, 120, 121, 122, 123, 124, 125, 126, 127, 128, 129, 130, 131, 132, 133, 134, 135, 136, 137, 138, 139] rfl (by decide +kernel)
set_option maxRecDepth 20000 in
theorem gX6_readAny_X6_errs : GoodIn wsX6_readAny (wsV RX6 188 RX6 yX6_errs wsX6_errs) := goodIn_app (goodIn_of _ (by decide +kernel)) ggX6_readAny_X6_errs
set_option maxRecDepth 20000 in
theorem ggX6_readAny_X6_waits : GoodIn wsX6_readAny wsX6_waits := goodIn_r _ [24, 25, 1, 85, 86, 87, 88, 89, 90, 91, 92, 93, 94, 95, 96, 97, 98, 99, 100, 101, 102, 103, 104, 105, 106, 107, 108, 109, 110, 111, 112, 113, 114, 115, 116, 117, 118, 119, 120, 121, 122, 123, 124, 125, 126, 127, 128, 129, 130, 131, 132, 133, 134, 135, 136, 137, 138, 139] rfl (by decide +kernel)
set_option maxRecDepth 20000 in
theorem gX6_readAny_X6_waits : GoodIn wsX6_readAny (wsV RX6 220 RX6 yX6_waits wsX6_waits) := goodIn_app (goodIn_of _ (by decide +kernel)) ggX6_readAny_X6_waits
set_option maxRecDepth 20000 in
theorem ggX6_readAny_X6_reads : GoodIn wsX6_readAny wsX6_reads := goodIn_r _ [29, 30, 19, 8, 9, 31, 32, 33, 6, 34, 35, 36, 37, 38, 39, 40, 41, 42, 43, 44, 45, 46, 47, 48, 49, 50, 51, 52, 53, 54, 55, 56, 57, 85, 86, 87, 88, 89, 90, 91, 92, 93, 94, 95, 96, 97, 98, 99, 100, 101, 102, 103, 104, 105, 106, 107, 108, 109, 110, 111, 112, 113, 114, 115, 116, 117, 118, 119, 120, 121, 122, 123, 124, 125, 126, 127, 128, 129, 130, 131, 132, 133, 134, 135, 136, 137, 138, 139] rfl (by decide +kernel)
set_option maxRecDepth 20000 in
theorem gX6_readAny_X6_reads : GoodIn wsX6_readAny (wsV RX6 195 RX6 yX6_reads wsX6_reads) := goodIn_app (goodIn_of _ (by decide +kernel)) ggX6_readAny_X6_reads
set_option maxRecDepth 20000 in
theorem ggX6_readAny_X6_readCompared : GoodIn wsX6_readAny wsX6_readCompared := goodIn_r _ [61, 9, 62, 63, 64, 6, 65, 66, 67, 68, 69, 8, 70, 71, 72, 73, 14, 15, 16, 17, 18, 19, 20, 74, 75, 76, 77, 78, 79, 80, 26, 27, 28, 29, 30, 31, 32, 33, 34, 35, 36, 37, 38, 39, 40, 41, 42, 43, 44, 45, 46, 47, 48, 49, 50, 51, 52, 53, 54, 55, 56, 57, 10, 11, 12, 13, 85, 86, 87, 88, 89, 90, 91, 92, 93, 94, 95, 96, 97, 98, 99, 100, 101, 102, 103, 104, 105, 106, 107, 108, 109, 110, 111, 112, 113, 114, 115, 116, 117, 118, 119, 120, 121, 122, 123, 124, 125, 126, 127, 128, 129, 130, 131, 132, 133, 134, 135, 136, 137, 138, 139] rfl (by decide +kernel)
set_option maxRecDepth 20000 in
theorem gX6_readAny_X6_readCompared : GoodIn wsX6_readAny (wsV RX6 223 RX6 yX6_readCompared wsX6_readCompared) := goodIn_app (goodIn_of _ (by decide +kernel)) ggX6_readAny_X6_readCompared
set_option maxRecDepth 20000 in
theorem ggX6_readAny_X6_settles : GoodIn wsX6_readAny wsX6_settles := goodIn_r _ [84, 1, 25, 2, 74, 75, 76, 6, 77, 78, 79, 80, 85, 86, 87, 88, 89, 90, 91, 92, 93, 94, 95, 96, 97, 98, 99, 100, 101, 102, 103, 104, 105, 106, 107, 108, 109, 110, 111, 112, 113, 114, 115, 116, 117, 118, 119, 120, 121, 122, 123, 124, 125, 126, 127, 128, 129, 130, 131, 132, 133, 134, 135, 136, 137, 138, 139] rfl (by decide +kernel)
set_option maxRecDepth 20000 in
theorem gX6_readAny_X6_settles : GoodIn wsX6_readAny (wsV RX6 226 RX6 yX6_settles wsX6_settles) := goodIn_app (goodIn_of _ (by decide +kernel)) ggX6_readAny_X6_settles
theorem dX6_readAny_0 : decode cX6_readAny 0 = .ok (.iconst 0, 1) := by decide +kernel
theorem dX6_readAny_1 : decode cX6_readAny 1 = .ok (.istore_n 1, 1) := by decide +kernel
theorem dX6_readAny_2 : decode cX6_readAny 2 = .ok (.aload_n 0, 1) := by decide +kernel
theorem dX6_readAny_3 : decode cX6_readAny 3 = .ok (.iconst 0, 1) := by decide +kernel
theorem dX6_readAny_4 : decode cX6_readAny 4 = .ok (.putfield 211, 3) := by decide +kernel
theorem dX6_readAny_7 : decode cX6_readAny 7 = .ok (.iconst 1, 1) := by decide +kernel
theorem dX6_readAny_8 : decode cX6_readAny 8 = .ok (.istore_n 2, 1) := by decide +kernel
theorem dX6_readAny_9 : decode cX6_readAny 9 = .ok (.iload_n 2, 1) := by decide +kernel
theorem dX6_readAny_10 : decode cX6_readAny 10 = .ok (.ifCond .eq 98, 3) := by decide +kernel
theorem dX6_readAny_13 : decode cX6_readAny 13 = .ok (.aload_n 0, 1) := by decide +kernel
theorem dX6_readAny_14 : decode cX6_readAny 14 = .ok (.iconst 4, 1) := by decide +kernel
theorem dX6_readAny_15 : decode cX6_readAny 15 = .ok (.invokevirtual 217, 3) := by decide +kernel
theorem dX6_readAny_18 : decode cX6_readAny 18 = .ok (.istore_n 3, 1) := by decide +kernel
theorem dX6_readAny_19 : decode cX6_readAny 19 = .ok (.iload_n 3, 1) := by decide +kernel
theorem dX6_readAny_20 : decode cX6_readAny 20 = .ok (.ifCond .ne 12, 3) := by decide +kernel
theorem dX6_readAny_23 : decode cX6_readAny 23 = .ok (.aload_n 0, 1) := by decide +kernel
theorem dX6_readAny_24 : decode cX6_readAny 24 = .ok (.bipush 40, 2) := by decide +kernel
theorem dX6_readAny_26 : decode cX6_readAny 26 = .ok (.invokevirtual 202, 3) := by decide +kernel
theorem dX6_readAny_29 : decode cX6_readAny 29 = .ok (.ifCond .eq 58, 3) := by decide +kernel
theorem dX6_readAny_32 : decode cX6_readAny 32 = .ok (.aload_n 0, 1) := by decide +kernel
theorem dX6_readAny_33 : decode cX6_readAny 33 = .ok (.getfield 214, 3) := by decide +kernel
theorem dX6_readAny_36 : decode cX6_readAny 36 = .ok (.bipush 8, 2) := by decide +kernel
theorem dX6_readAny_38 : decode cX6_readAny 38 = .ok (.if_icmp .ne 9, 3) := by decide +kernel
theorem dX6_readAny_41 : decode cX6_readAny 41 = .ok (.aload_n 0, 1) := by decide +kernel
theorem dX6_readAny_42 : decode cX6_readAny 42 = .ok (.iconst 3, 1) := by decide +kernel
theorem dX6_readAny_43 : decode cX6_readAny 43 = .ok (.invokevirtual 188, 3) := by decide +kernel
theorem dX6_readAny_46 : decode cX6_readAny 46 = .ok (.ireturn, 1) := by decide +kernel
theorem dX6_readAny_47 : decode cX6_readAny 47 = .ok (.aload_n 0, 1) := by decide +kernel
theorem dX6_readAny_48 : decode cX6_readAny 48 = .ok (.aload_n 0, 1) := by decide +kernel
theorem dX6_readAny_49 : decode cX6_readAny 49 = .ok (.getfield 214, 3) := by decide +kernel
theorem dX6_readAny_52 : decode cX6_readAny 52 = .ok (.iconst 1, 1) := by decide +kernel
theorem dX6_readAny_53 : decode cX6_readAny 53 = .ok (.iadd, 1) := by decide +kernel
theorem dX6_readAny_54 : decode cX6_readAny 54 = .ok (.putfield 214, 3) := by decide +kernel
theorem dX6_readAny_57 : decode cX6_readAny 57 = .ok (.iload_n 3, 1) := by decide +kernel
theorem dX6_readAny_58 : decode cX6_readAny 58 = .ok (.ifCond .ne 7, 3) := by decide +kernel
theorem dX6_readAny_61 : decode cX6_readAny 61 = .ok (.iload_n 1, 1) := by decide +kernel
theorem dX6_readAny_62 : decode cX6_readAny 62 = .ok (.iconst 1, 1) := by decide +kernel
theorem dX6_readAny_63 : decode cX6_readAny 63 = .ok (.iadd, 1) := by decide +kernel
theorem dX6_readAny_64 : decode cX6_readAny 64 = .ok (.istore_n 1, 1) := by decide +kernel
theorem dX6_readAny_65 : decode cX6_readAny 65 = .ok (.aload_n 0, 1) := by decide +kernel
theorem dX6_readAny_66 : decode cX6_readAny 66 = .ok (.iload_n 3, 1) := by decide +kernel
theorem dX6_readAny_67 : decode cX6_readAny 67 = .ok (.ifCond .eq 8, 3) := by decide +kernel
theorem dX6_readAny_70 : decode cX6_readAny 70 = .ok (.bipush 9, 2) := by decide +kernel
theorem dX6_readAny_72 : decode cX6_readAny 72 = .ok (.goto 5, 3) := by decide +kernel
theorem dX6_readAny_75 : decode cX6_readAny 75 = .ok (.bipush 12, 2) := by decide +kernel
theorem dX6_readAny_77 : decode cX6_readAny 77 = .ok (.invokevirtual 220, 3) := by decide +kernel
theorem dX6_readAny_80 : decode cX6_readAny 80 = .ok (.aload_n 0, 1) := by decide +kernel
theorem dX6_readAny_81 : decode cX6_readAny 81 = .ok (.invokevirtual 195, 3) := by decide +kernel
theorem dX6_readAny_84 : decode cX6_readAny 84 = .ok (.goto (-75), 3) := by decide +kernel
theorem dX6_readAny_87 : decode cX6_readAny 87 = .ok (.aload_n 0, 1) := by decide +kernel
theorem dX6_readAny_88 : decode cX6_readAny 88 = .ok (.invokevirtual 223, 3) := by decide +kernel
theorem dX6_readAny_91 : decode cX6_readAny 91 = .ok (.iconst (-1), 1) := by decide +kernel
theorem dX6_readAny_92 : decode cX6_readAny 92 = .ok (.if_icmp .ne 5, 3) := by decide +kernel
theorem dX6_readAny_95 : decode cX6_readAny 95 = .ok (.iconst (-1), 1) := by decide +kernel
theorem dX6_readAny_96 : decode cX6_readAny 96 = .ok (.ireturn, 1) := by decide +kernel
theorem dX6_readAny_97 : decode cX6_readAny 97 = .ok (.aload_n 0, 1) := by decide +kernel
theorem dX6_readAny_98 : decode cX6_readAny 98 = .ok (.bipush 9, 2) := by decide +kernel
theorem dX6_readAny_100 : decode cX6_readAny 100 = .ok (.invokevirtual 226, 3) := by decide +kernel
theorem dX6_readAny_103 : decode cX6_readAny 103 = .ok (.iconst 0, 1) := by decide +kernel
theorem dX6_readAny_104 : decode cX6_readAny 104 = .ok (.istore_n 2, 1) := by decide +kernel
theorem dX6_readAny_105 : decode cX6_readAny 105 = .ok (.goto (-96), 3) := by decide +kernel
theorem dX6_readAny_108 : decode cX6_readAny 108 = .ok (.aload_n 0, 1) := by decide +kernel
theorem dX6_readAny_109 : decode cX6_readAny 109 = .ok (.iconst 3, 1) := by decide +kernel
theorem dX6_readAny_110 : decode cX6_readAny 110 = .ok (.invokevirtual 217, 3) := by decide +kernel
theorem dX6_readAny_113 : decode cX6_readAny 113 = .ok (.ifCond .eq 24, 3) := by decide +kernel
theorem dX6_readAny_116 : decode cX6_readAny 116 = .ok (.aload_n 0, 1) := by decide +kernel
theorem dX6_readAny_117 : decode cX6_readAny 117 = .ok (.bipush 10, 2) := by decide +kernel
theorem dX6_readAny_119 : decode cX6_readAny 119 = .ok (.invokevirtual 226, 3) := by decide +kernel
theorem dX6_readAny_122 : decode cX6_readAny 122 = .ok (.aload_n 0, 1) := by decide +kernel
theorem dX6_readAny_123 : decode cX6_readAny 123 = .ok (.bipush 10, 2) := by decide +kernel
theorem dX6_readAny_125 : decode cX6_readAny 125 = .ok (.invokevirtual 220, 3) := by decide +kernel
theorem dX6_readAny_128 : decode cX6_readAny 128 = .ok (.aload_n 0, 1) := by decide +kernel
theorem dX6_readAny_129 : decode cX6_readAny 129 = .ok (.invokevirtual 195, 3) := by decide +kernel
theorem dX6_readAny_132 : decode cX6_readAny 132 = .ok (.iconst 1, 1) := by decide +kernel
theorem dX6_readAny_133 : decode cX6_readAny 133 = .ok (.istore_n 2, 1) := by decide +kernel
theorem dX6_readAny_134 : decode cX6_readAny 134 = .ok (.goto (-125), 3) := by decide +kernel
theorem dX6_readAny_137 : decode cX6_readAny 137 = .ok (.aload_n 0, 1) := by decide +kernel
theorem dX6_readAny_138 : decode cX6_readAny 138 = .ok (.iconst 2, 1) := by decide +kernel
theorem dX6_readAny_139 : decode cX6_readAny 139 = .ok (.invokevirtual 217, 3) := by decide +kernel
theorem dX6_readAny_142 : decode cX6_readAny 142 = .ok (.ifCond .eq 30, 3) := by decide +kernel
theorem dX6_readAny_145 : decode cX6_readAny 145 = .ok (.aload_n 0, 1) := by decide +kernel
theorem dX6_readAny_146 : decode cX6_readAny 146 = .ok (.bipush 10, 2) := by decide +kernel
theorem dX6_readAny_148 : decode cX6_readAny 148 = .ok (.invokevirtual 226, 3) := by decide +kernel
theorem dX6_readAny_151 : decode cX6_readAny 151 = .ok (.aload_n 0, 1) := by decide +kernel
theorem dX6_readAny_152 : decode cX6_readAny 152 = .ok (.bipush 11, 2) := by decide +kernel
theorem dX6_readAny_154 : decode cX6_readAny 154 = .ok (.invokevirtual 226, 3) := by decide +kernel
theorem dX6_readAny_157 : decode cX6_readAny 157 = .ok (.aload_n 0, 1) := by decide +kernel
theorem dX6_readAny_158 : decode cX6_readAny 158 = .ok (.bipush 11, 2) := by decide +kernel
theorem dX6_readAny_160 : decode cX6_readAny 160 = .ok (.invokevirtual 220, 3) := by decide +kernel
theorem dX6_readAny_163 : decode cX6_readAny 163 = .ok (.aload_n 0, 1) := by decide +kernel
theorem dX6_readAny_164 : decode cX6_readAny 164 = .ok (.invokevirtual 195, 3) := by decide +kernel
theorem dX6_readAny_167 : decode cX6_readAny 167 = .ok (.iconst 1, 1) := by decide +kernel
theorem dX6_readAny_168 : decode cX6_readAny 168 = .ok (.istore_n 2, 1) := by decide +kernel
theorem dX6_readAny_169 : decode cX6_readAny 169 = .ok (.goto (-160), 3) := by decide +kernel
theorem dX6_readAny_172 : decode cX6_readAny 172 = .ok (.aload_n 0, 1) := by decide +kernel
theorem dX6_readAny_173 : decode cX6_readAny 173 = .ok (.bipush 10, 2) := by decide +kernel
theorem dX6_readAny_175 : decode cX6_readAny 175 = .ok (.invokevirtual 226, 3) := by decide +kernel
theorem dX6_readAny_178 : decode cX6_readAny 178 = .ok (.aload_n 0, 1) := by decide +kernel
theorem dX6_readAny_179 : decode cX6_readAny 179 = .ok (.bipush 11, 2) := by decide +kernel
theorem dX6_readAny_181 : decode cX6_readAny 181 = .ok (.invokevirtual 226, 3) := by decide +kernel
theorem dX6_readAny_184 : decode cX6_readAny 184 = .ok (.iload_n 1, 1) := by decide +kernel
theorem dX6_readAny_185 : decode cX6_readAny 185 = .ok (.ifCond .ne 5, 3) := by decide +kernel
theorem dX6_readAny_188 : decode cX6_readAny 188 = .ok (.iconst 0, 1) := by decide +kernel
theorem dX6_readAny_189 : decode cX6_readAny 189 = .ok (.ireturn, 1) := by decide +kernel
theorem dX6_readAny_190 : decode cX6_readAny 190 = .ok (.aload_n 0, 1) := by decide +kernel
theorem dX6_readAny_191 : decode cX6_readAny 191 = .ok (.bipush 41, 2) := by decide +kernel
theorem dX6_readAny_193 : decode cX6_readAny 193 = .ok (.invokevirtual 202, 3) := by decide +kernel
theorem dX6_readAny_196 : decode cX6_readAny 196 = .ok (.ifCond .ne 9, 3) := by decide +kernel
theorem dX6_readAny_199 : decode cX6_readAny 199 = .ok (.aload_n 0, 1) := by decide +kernel
theorem dX6_readAny_200 : decode cX6_readAny 200 = .ok (.iconst 1, 1) := by decide +kernel
theorem dX6_readAny_201 : decode cX6_readAny 201 = .ok (.invokevirtual 188, 3) := by decide +kernel
theorem dX6_readAny_204 : decode cX6_readAny 204 = .ok (.ireturn, 1) := by decide +kernel
theorem dX6_readAny_205 : decode cX6_readAny 205 = .ok (.aload_n 0, 1) := by decide +kernel
theorem dX6_readAny_206 : decode cX6_readAny 206 = .ok (.aload_n 0, 1) := by decide +kernel
theorem dX6_readAny_207 : decode cX6_readAny 207 = .ok (.getfield 211, 3) := by decide +kernel
theorem dX6_readAny_210 : decode cX6_readAny 210 = .ok (.iconst 1, 1) := by decide +kernel
theorem dX6_readAny_211 : decode cX6_readAny 211 = .ok (.isub, 1) := by decide +kernel
theorem dX6_readAny_212 : decode cX6_readAny 212 = .ok (.putfield 211, 3) := by decide +kernel
theorem dX6_readAny_215 : decode cX6_readAny 215 = .ok (.iload_n 1, 1) := by decide +kernel
theorem dX6_readAny_216 : decode cX6_readAny 216 = .ok (.iconst 1, 1) := by decide +kernel
theorem dX6_readAny_217 : decode cX6_readAny 217 = .ok (.isub, 1) := by decide +kernel
theorem dX6_readAny_218 : decode cX6_readAny 218 = .ok (.istore_n 1, 1) := by decide +kernel
theorem dX6_readAny_219 : decode cX6_readAny 219 = .ok (.aload_n 0, 1) := by decide +kernel
theorem dX6_readAny_220 : decode cX6_readAny 220 = .ok (.aload_n 0, 1) := by decide +kernel
theorem dX6_readAny_221 : decode cX6_readAny 221 = .ok (.getfield 214, 3) := by decide +kernel
theorem dX6_readAny_224 : decode cX6_readAny 224 = .ok (.iconst 1, 1) := by decide +kernel
theorem dX6_readAny_225 : decode cX6_readAny 225 = .ok (.isub, 1) := by decide +kernel
theorem dX6_readAny_226 : decode cX6_readAny 226 = .ok (.putfield 214, 3) := by decide +kernel
theorem dX6_readAny_229 : decode cX6_readAny 229 = .ok (.aload_n 0, 1) := by decide +kernel
theorem dX6_readAny_230 : decode cX6_readAny 230 = .ok (.bipush 9, 2) := by decide +kernel
theorem dX6_readAny_232 : decode cX6_readAny 232 = .ok (.invokevirtual 226, 3) := by decide +kernel
theorem dX6_readAny_235 : decode cX6_readAny 235 = .ok (.aload_n 0, 1) := by decide +kernel
theorem dX6_readAny_236 : decode cX6_readAny 236 = .ok (.invokevirtual 195, 3) := by decide +kernel
theorem dX6_readAny_239 : decode cX6_readAny 239 = .ok (.goto (-230), 3) := by decide +kernel
set_option maxRecDepth 20000 in
theorem ggX6_readLaw_X6_isWord : GoodIn wsX6_readLaw wsX6_isWord := goodIn_r _ [11, 1, 2, 92, 93, 94, 95, 96, 97, 98, 99, 100, 101, 102, 103, 104, 105, 106, 107, 108, 109, 110, 111, 112, 113, 114, 115, 116, 117, 118, 119, 120, 121, 122, 123, 124, 125, 126, 127, 128, 129, 130, 131, 132, 133, 134, 135, 136, 137, 138, 139, 140, 141, 142, 143, 144, 145, 146] rfl (by decide +kernel)
set_option maxRecDepth 20000 in
theorem gX6_readLaw_X6_isWord : GoodIn wsX6_readLaw (wsV RX6 217 RX6 yX6_isWord wsX6_isWord) := goodIn_app (goodIn_of _ (by decide +kernel)) ggX6_readLaw_X6_isWord
set_option maxRecDepth 20000 in
theorem ggX6_readLaw_X6_errs : GoodIn wsX6_readLaw wsX6_errs := goodIn_r _ [15, 16, 17, 18, 92, 93, 94, 95, 96, 97, 98, 99, 100, 101, 102, 103, 104, 105, 106, 107, 108, 109, 110, 111, 112, 113, 114, 115, 116, 117, 118, 119, 120, 121, 122, 123, 124, 125, 126, 127, 128, 129, 130, 131, 132, 133, 134, 135, 136, 137, 138, 139, 140, 141, 142, 143, 144, 145, 146] rfl (by decide +kernel)
set_option maxRecDepth 20000 in
theorem gX6_readLaw_X6_errs : GoodIn wsX6_readLaw (wsV RX6 188 RX6 yX6_errs wsX6_errs) := goodIn_app (goodIn_of _ (by decide +kernel)) ggX6_readLaw_X6_errs
set_option maxRecDepth 20000 in
theorem ggX6_readLaw_X6_reads : GoodIn wsX6_readLaw wsX6_reads := goodIn_r _ [22, 23, 17, 1, 2, 24, 25, 26, 10, 27, 28, 29, 30, 31, 32, 33, 34, 35, 36, 37, 38, 39, 40, 41, 42, 43, 44, 45, 46, 47, 48, 49, 50, 92, 93, 94, 95, 96, 97, 98, 99, 100, 101, 102, 103, 104, 105, 106, 107, 108, 109, 110, 111, 112, 113, 114, 115, 116, 117, 118, 119, 120, 121, 122, 123, 124, 125, 126, 127, 128, 129, 130, 131, 132, 133, 134, 135, 136, 137, 138, 139, 140, 141, 142, 143, 144, 145, 146] rfl (by decide +kernel)
set_option maxRecDepth 20000 in
theorem gX6_readLaw_X6_reads : GoodIn wsX6_readLaw (wsV RX6 195 RX6 yX6_reads wsX6_reads) := goodIn_app (goodIn_of _ (by decide +kernel)) ggX6_readLaw_X6_reads
set_option maxRecDepth 20000 in
theorem ggX6_readLaw_X6_readAny : GoodIn wsX6_readLaw wsX6_readAny := goodIn_r _ [54, 55, 56, 7, 8, 9, 10, 11, 1, 2, 57, 58, 59, 60, 12, 13, 14, 15, 16, 17, 18, 61, 62, 63, 64, 65, 19, 20, 21, 22, 23, 24, 25, 26, 27, 28, 29, 30, 31, 32, 33, 34, 35, 36, 37, 38, 39, 40, 41, 42, 43, 44, 45, 46, 47, 48, 49, 50, 66, 67, 68, 69, 70, 71, 72, 73, 74, 75, 76, 77, 78, 79, 80, 81, 82, 83, 84, 85, 86, 5, 87, 88, 89, 90, 91, 92, 93, 94, 95, 96, 97, 98, 99, 100, 101, 102, 103, 104, 105, 106, 107, 108, 109, 110, 111, 112, 113, 114, 115, 116, 117, 118, 119, 120, 121, 122, 123, 124, 125, 126, 127, 128, 129, 130, 131, 132, 133, 134, 135, 136, 137, 138, 139, 140, 141, 142, 143, 144, 145, 146] rfl (by decide +kernel)
set_option maxRecDepth 20000 in
theorem gX6_readLaw_X6_readAny : GoodIn wsX6_readLaw (wsV RX6 229 RX6 yX6_readAny wsX6_readAny) := goodIn_app (goodIn_of _ (by decide +kernel)) ggX6_readLaw_X6_readAny
set_option maxRecDepth 20000 in
theorem ggX6_readLaw_X6_isSign : GoodIn wsX6_readLaw wsX6_isSign := goodIn_r _ [60, 1, 2, 92, 93, 94, 95, 96, 97, 98, 99, 100, 101, 102, 103, 104, 105, 106, 107, 108, 109, 110, 111, 112, 113, 114, 115, 116, 117, 118, 119, 120, 121, 122, 123, 124, 125, 126, 127, 128, 129, 130, 131, 132, 133, 134, 135, 136, 137, 138, 139, 140, 141, 142, 143, 144, 145, 146] rfl (by decide +kernel)
set_option maxRecDepth 20000 in
theorem gX6_readLaw_X6_isSign : GoodIn wsX6_readLaw (wsV RX6 202 RX6 yX6_isSign wsX6_isSign) := goodIn_app (goodIn_of _ (by decide +kernel)) ggX6_readLaw_X6_isSign
theorem dX6_readLaw_0 : decode cX6_readLaw 0 = .ok (.iconst 0, 1) := by decide +kernel
theorem dX6_readLaw_1 : decode cX6_readLaw 1 = .ok (.istore_n 1, 1) := by decide +kernel
theorem dX6_readLaw_2 : decode cX6_readLaw 2 = .ok (.aload_n 0, 1) := by decide +kernel
theorem dX6_readLaw_3 : decode cX6_readLaw 3 = .ok (.iconst 0, 1) := by decide +kernel
theorem dX6_readLaw_4 : decode cX6_readLaw 4 = .ok (.invokevirtual 217, 3) := by decide +kernel
theorem dX6_readLaw_7 : decode cX6_readLaw 7 = .ok (.ifCond .eq 134, 3) := by decide +kernel
theorem dX6_readLaw_10 : decode cX6_readLaw 10 = .ok (.iload_n 1, 1) := by decide +kernel
theorem dX6_readLaw_11 : decode cX6_readLaw 11 = .ok (.bipush 16, 2) := by decide +kernel
theorem dX6_readLaw_13 : decode cX6_readLaw 13 = .ok (.if_icmp .ne 9, 3) := by decide +kernel
theorem dX6_readLaw_16 : decode cX6_readLaw 16 = .ok (.aload_n 0, 1) := by decide +kernel
theorem dX6_readLaw_17 : decode cX6_readLaw 17 = .ok (.iconst 3, 1) := by decide +kernel
theorem dX6_readLaw_18 : decode cX6_readLaw 18 = .ok (.invokevirtual 188, 3) := by decide +kernel
theorem dX6_readLaw_21 : decode cX6_readLaw 21 = .ok (.ireturn, 1) := by decide +kernel
theorem dX6_readLaw_22 : decode cX6_readLaw 22 = .ok (.bipush 64, 2) := by decide +kernel
theorem dX6_readLaw_24 : decode cX6_readLaw 24 = .ok (.iload_n 1, 1) := by decide +kernel
theorem dX6_readLaw_25 : decode cX6_readLaw 25 = .ok (.iadd, 1) := by decide +kernel
theorem dX6_readLaw_26 : decode cX6_readLaw 26 = .ok (.istore_n 2, 1) := by decide +kernel
theorem dX6_readLaw_27 : decode cX6_readLaw 27 = .ok (.aload_n 0, 1) := by decide +kernel
theorem dX6_readLaw_28 : decode cX6_readLaw 28 = .ok (.invokevirtual 195, 3) := by decide +kernel
theorem dX6_readLaw_31 : decode cX6_readLaw 31 = .ok (.aload_n 0, 1) := by decide +kernel
theorem dX6_readLaw_32 : decode cX6_readLaw 32 = .ok (.getfield 161, 3) := by decide +kernel
theorem dX6_readLaw_35 : decode cX6_readLaw 35 = .ok (.iconst 3, 1) := by decide +kernel
theorem dX6_readLaw_36 : decode cX6_readLaw 36 = .ok (.if_icmp .eq 9, 3) := by decide +kernel
theorem dX6_readLaw_39 : decode cX6_readLaw 39 = .ok (.aload_n 0, 1) := by decide +kernel
theorem dX6_readLaw_40 : decode cX6_readLaw 40 = .ok (.iconst 1, 1) := by decide +kernel
theorem dX6_readLaw_41 : decode cX6_readLaw 41 = .ok (.invokevirtual 188, 3) := by decide +kernel
theorem dX6_readLaw_44 : decode cX6_readLaw 44 = .ok (.ireturn, 1) := by decide +kernel
theorem dX6_readLaw_45 : decode cX6_readLaw 45 = .ok (.aload_n 0, 1) := by decide +kernel
theorem dX6_readLaw_46 : decode cX6_readLaw 46 = .ok (.getfield 164, 3) := by decide +kernel
theorem dX6_readLaw_49 : decode cX6_readLaw 49 = .ok (.iconst 3, 1) := by decide +kernel
theorem dX6_readLaw_50 : decode cX6_readLaw 50 = .ok (.if_icmp .le 9, 3) := by decide +kernel
theorem dX6_readLaw_53 : decode cX6_readLaw 53 = .ok (.aload_n 0, 1) := by decide +kernel
theorem dX6_readLaw_54 : decode cX6_readLaw 54 = .ok (.iconst 2, 1) := by decide +kernel
theorem dX6_readLaw_55 : decode cX6_readLaw 55 = .ok (.invokevirtual 188, 3) := by decide +kernel
theorem dX6_readLaw_58 : decode cX6_readLaw 58 = .ok (.ireturn, 1) := by decide +kernel
theorem dX6_readLaw_59 : decode cX6_readLaw 59 = .ok (.aload_n 0, 1) := by decide +kernel
theorem dX6_readLaw_60 : decode cX6_readLaw 60 = .ok (.getfield 65, 3) := by decide +kernel
theorem dX6_readLaw_63 : decode cX6_readLaw 63 = .ok (.iload_n 2, 1) := by decide +kernel
theorem dX6_readLaw_64 : decode cX6_readLaw 64 = .ok (.aload_n 0, 1) := by decide +kernel
theorem dX6_readLaw_65 : decode cX6_readLaw 65 = .ok (.getfield 164, 3) := by decide +kernel
theorem dX6_readLaw_68 : decode cX6_readLaw 68 = .ok (.iastore, 1) := by decide +kernel
theorem dX6_readLaw_69 : decode cX6_readLaw 69 = .ok (.aload_n 0, 1) := by decide +kernel
theorem dX6_readLaw_70 : decode cX6_readLaw 70 = .ok (.invokevirtual 195, 3) := by decide +kernel
theorem dX6_readLaw_73 : decode cX6_readLaw 73 = .ok (.aload_n 0, 1) := by decide +kernel
theorem dX6_readLaw_74 : decode cX6_readLaw 74 = .ok (.getfield 68, 3) := by decide +kernel
theorem dX6_readLaw_77 : decode cX6_readLaw 77 = .ok (.iload_n 2, 1) := by decide +kernel
theorem dX6_readLaw_78 : decode cX6_readLaw 78 = .ok (.aload_n 0, 1) := by decide +kernel
theorem dX6_readLaw_79 : decode cX6_readLaw 79 = .ok (.getfield 185, 3) := by decide +kernel
theorem dX6_readLaw_82 : decode cX6_readLaw 82 = .ok (.iastore, 1) := by decide +kernel
theorem dX6_readLaw_83 : decode cX6_readLaw 83 = .ok (.aload_n 0, 1) := by decide +kernel
theorem dX6_readLaw_84 : decode cX6_readLaw 84 = .ok (.iconst 1, 1) := by decide +kernel
theorem dX6_readLaw_85 : decode cX6_readLaw 85 = .ok (.invokevirtual 217, 3) := by decide +kernel
theorem dX6_readLaw_88 : decode cX6_readLaw 88 = .ok (.ifCond .eq 17, 3) := by decide +kernel
theorem dX6_readLaw_91 : decode cX6_readLaw 91 = .ok (.aload_n 0, 1) := by decide +kernel
theorem dX6_readLaw_92 : decode cX6_readLaw 92 = .ok (.invokevirtual 195, 3) := by decide +kernel
theorem dX6_readLaw_95 : decode cX6_readLaw 95 = .ok (.aload_n 0, 1) := by decide +kernel
theorem dX6_readLaw_96 : decode cX6_readLaw 96 = .ok (.invokevirtual 229, 3) := by decide +kernel
theorem dX6_readLaw_99 : decode cX6_readLaw 99 = .ok (.iconst (-1), 1) := by decide +kernel
theorem dX6_readLaw_100 : decode cX6_readLaw 100 = .ok (.if_icmp .ne 5, 3) := by decide +kernel
theorem dX6_readLaw_103 : decode cX6_readLaw 103 = .ok (.iconst (-1), 1) := by decide +kernel
theorem dX6_readLaw_104 : decode cX6_readLaw 104 = .ok (.ireturn, 1) := by decide +kernel
theorem dX6_readLaw_105 : decode cX6_readLaw 105 = .ok (.aload_n 0, 1) := by decide +kernel
theorem dX6_readLaw_106 : decode cX6_readLaw 106 = .ok (.getfield 71, 3) := by decide +kernel
theorem dX6_readLaw_109 : decode cX6_readLaw 109 = .ok (.iload_n 2, 1) := by decide +kernel
theorem dX6_readLaw_110 : decode cX6_readLaw 110 = .ok (.aload_n 0, 1) := by decide +kernel
theorem dX6_readLaw_111 : decode cX6_readLaw 111 = .ok (.getfield 185, 3) := by decide +kernel
theorem dX6_readLaw_114 : decode cX6_readLaw 114 = .ok (.iastore, 1) := by decide +kernel
theorem dX6_readLaw_115 : decode cX6_readLaw 115 = .ok (.aload_n 0, 1) := by decide +kernel
theorem dX6_readLaw_116 : decode cX6_readLaw 116 = .ok (.bipush 59, 2) := by decide +kernel
theorem dX6_readLaw_118 : decode cX6_readLaw 118 = .ok (.invokevirtual 202, 3) := by decide +kernel
theorem dX6_readLaw_121 : decode cX6_readLaw 121 = .ok (.ifCond .ne 9, 3) := by decide +kernel
theorem dX6_readLaw_124 : decode cX6_readLaw 124 = .ok (.aload_n 0, 1) := by decide +kernel
theorem dX6_readLaw_125 : decode cX6_readLaw 125 = .ok (.iconst 1, 1) := by decide +kernel
theorem dX6_readLaw_126 : decode cX6_readLaw 126 = .ok (.invokevirtual 188, 3) := by decide +kernel
theorem dX6_readLaw_129 : decode cX6_readLaw 129 = .ok (.ireturn, 1) := by decide +kernel
theorem dX6_readLaw_130 : decode cX6_readLaw 130 = .ok (.aload_n 0, 1) := by decide +kernel
theorem dX6_readLaw_131 : decode cX6_readLaw 131 = .ok (.invokevirtual 195, 3) := by decide +kernel
theorem dX6_readLaw_134 : decode cX6_readLaw 134 = .ok (.iload_n 1, 1) := by decide +kernel
theorem dX6_readLaw_135 : decode cX6_readLaw 135 = .ok (.iconst 1, 1) := by decide +kernel
theorem dX6_readLaw_136 : decode cX6_readLaw 136 = .ok (.iadd, 1) := by decide +kernel
theorem dX6_readLaw_137 : decode cX6_readLaw 137 = .ok (.istore_n 1, 1) := by decide +kernel
theorem dX6_readLaw_138 : decode cX6_readLaw 138 = .ok (.goto (-136), 3) := by decide +kernel
theorem dX6_readLaw_141 : decode cX6_readLaw 141 = .ok (.aload_n 0, 1) := by decide +kernel
theorem dX6_readLaw_142 : decode cX6_readLaw 142 = .ok (.getfield 161, 3) := by decide +kernel
theorem dX6_readLaw_145 : decode cX6_readLaw 145 = .ok (.ifCond .ne 7, 3) := by decide +kernel
theorem dX6_readLaw_148 : decode cX6_readLaw 148 = .ok (.iload_n 1, 1) := by decide +kernel
theorem dX6_readLaw_149 : decode cX6_readLaw 149 = .ok (.goto 8, 3) := by decide +kernel
theorem dX6_readLaw_152 : decode cX6_readLaw 152 = .ok (.aload_n 0, 1) := by decide +kernel
theorem dX6_readLaw_153 : decode cX6_readLaw 153 = .ok (.iconst 1, 1) := by decide +kernel
theorem dX6_readLaw_154 : decode cX6_readLaw 154 = .ok (.invokevirtual 188, 3) := by decide +kernel
theorem dX6_readLaw_157 : decode cX6_readLaw 157 = .ok (.ireturn, 1) := by decide +kernel
set_option maxRecDepth 20000 in
theorem ggX6_text_X6_isIn : GoodIn wsX6_text wsX6_isIn := goodIn_r _ [20] rfl (by decide +kernel)
set_option maxRecDepth 20000 in
theorem gX6_text_X6_isIn : GoodIn wsX6_text (wsV RX6 129 RX6 yX6_isIn wsX6_isIn) := goodIn_app (goodIn_of _ (by decide +kernel)) ggX6_text_X6_isIn
set_option maxRecDepth 20000 in
theorem ggX6_text_X6_reads : GoodIn wsX6_text wsX6_reads := goodIn_r _ [24, 4, 25, 26, 27, 28, 29, 30, 19, 31, 7, 32, 33, 34, 35, 36, 16, 17, 18, 20, 37, 38, 39, 40, 41, 42, 43, 44, 45, 46, 47, 48, 49, 100, 101, 102, 103, 104, 105, 106, 107, 108, 109, 110, 111, 112, 113, 114, 115, 116, 117, 118, 119, 120, 121, 122, 123, 124, 125, 126, 127, 128, 129, 130, 131, 132, 133, 134, 135, 136, 137, 138, 139, 140, 141, 142, 143, 144, 145, 146, 147, 148, 149, 150, 151, 152, 153, 154] rfl (by decide +kernel)
set_option maxRecDepth 20000 in
theorem gX6_text_X6_reads : GoodIn wsX6_text (wsV RX6 195 RX6 yX6_reads wsX6_reads) := goodIn_app (goodIn_of _ (by decide +kernel)) ggX6_text_X6_reads
set_option maxRecDepth 20000 in
theorem ggX6_text_X6_readLaw : GoodIn wsX6_text wsX6_readLaw := goodIn_r _ [53, 26, 27, 10, 11, 5, 12, 54, 55, 56, 19, 57, 58, 59, 60, 61, 8, 25, 9, 21, 22, 23, 24, 4, 28, 29, 30, 31, 7, 32, 33, 34, 35, 36, 16, 17, 18, 20, 37, 38, 39, 40, 41, 42, 43, 44, 45, 46, 47, 48, 49, 62, 63, 64, 65, 66, 6, 67, 68, 69, 70, 71, 72, 73, 74, 75, 76, 77, 78, 79, 80, 81, 82, 83, 84, 85, 86, 87, 88, 89, 90, 91, 92, 93, 94, 95, 13, 14, 96, 97, 98, 99, 100, 101, 102, 103, 104, 105, 106, 107, 108, 109, 110, 111, 112, 113, 114, 115, 116, 117, 118, 119, 120, 121, 122, 123, 124, 125, 126, 127, 128, 129, 130, 131, 132, 133, 134, 135, 136, 137, 138, 139, 140, 141, 142, 143, 144, 145, 146, 147, 148, 149, 150, 151, 152, 153, 154] rfl (by decide +kernel)
set_option maxRecDepth 20000 in
theorem gX6_text_X6_readLaw : GoodIn wsX6_text (wsV RX6 235 RX6 yX6_readLaw wsX6_readLaw) := goodIn_app (goodIn_of _ (by decide +kernel)) ggX6_text_X6_readLaw
theorem dX6_text_0 : decode cX6_text 0 = .ok (.aload_n 0, 1) := by decide +kernel
theorem dX6_text_1 : decode cX6_text 1 = .ok (.iconst 0, 1) := by decide +kernel
theorem dX6_text_2 : decode cX6_text 2 = .ok (.putfield 121, 3) := by decide +kernel
theorem dX6_text_5 : decode cX6_text 5 = .ok (.aload_n 0, 1) := by decide +kernel
theorem dX6_text_6 : decode cX6_text 6 = .ok (.iconst 0, 1) := by decide +kernel
theorem dX6_text_7 : decode cX6_text 7 = .ok (.putfield 232, 3) := by decide +kernel
theorem dX6_text_10 : decode cX6_text 10 = .ok (.aload_n 0, 1) := by decide +kernel
theorem dX6_text_11 : decode cX6_text 11 = .ok (.iconst (-1), 1) := by decide +kernel
theorem dX6_text_12 : decode cX6_text 12 = .ok (.putfield 83, 3) := by decide +kernel
theorem dX6_text_15 : decode cX6_text 15 = .ok (.aload_n 0, 1) := by decide +kernel
theorem dX6_text_16 : decode cX6_text 16 = .ok (.iload_n 1, 1) := by decide +kernel
theorem dX6_text_17 : decode cX6_text 17 = .ok (.iconst 0, 1) := by decide +kernel
theorem dX6_text_18 : decode cX6_text 18 = .ok (.iconst 3, 1) := by decide +kernel
theorem dX6_text_19 : decode cX6_text 19 = .ok (.invokevirtual 129, 3) := by decide +kernel
theorem dX6_text_22 : decode cX6_text 22 = .ok (.istore_n 2, 1) := by decide +kernel
theorem dX6_text_23 : decode cX6_text 23 = .ok (.aload_n 0, 1) := by decide +kernel
theorem dX6_text_24 : decode cX6_text 24 = .ok (.iconst 0, 1) := by decide +kernel
theorem dX6_text_25 : decode cX6_text 25 = .ok (.putfield 152, 3) := by decide +kernel
theorem dX6_text_28 : decode cX6_text 28 = .ok (.aload_n 0, 1) := by decide +kernel
theorem dX6_text_29 : decode cX6_text 29 = .ok (.iconst 0, 1) := by decide +kernel
theorem dX6_text_30 : decode cX6_text 30 = .ok (.putfield 185, 3) := by decide +kernel
theorem dX6_text_33 : decode cX6_text 33 = .ok (.aload_n 0, 1) := by decide +kernel
theorem dX6_text_34 : decode cX6_text 34 = .ok (.iconst 0, 1) := by decide +kernel
theorem dX6_text_35 : decode cX6_text 35 = .ok (.putfield 214, 3) := by decide +kernel
theorem dX6_text_38 : decode cX6_text 38 = .ok (.aload_n 0, 1) := by decide +kernel
theorem dX6_text_39 : decode cX6_text 39 = .ok (.invokevirtual 195, 3) := by decide +kernel
theorem dX6_text_42 : decode cX6_text 42 = .ok (.iload_n 2, 1) := by decide +kernel
theorem dX6_text_43 : decode cX6_text 43 = .ok (.ifCond .eq 10, 3) := by decide +kernel
theorem dX6_text_46 : decode cX6_text 46 = .ok (.aload_n 0, 1) := by decide +kernel
theorem dX6_text_47 : decode cX6_text 47 = .ok (.invokevirtual 235, 3) := by decide +kernel
theorem dX6_text_50 : decode cX6_text 50 = .ok (.goto 4, 3) := by decide +kernel
theorem dX6_text_53 : decode cX6_text 53 = .ok (.iconst (-1), 1) := by decide +kernel
theorem dX6_text_54 : decode cX6_text 54 = .ok (.istore_n 3, 1) := by decide +kernel
theorem dX6_text_55 : decode cX6_text 55 = .ok (.aload_n 0, 1) := by decide +kernel
theorem dX6_text_56 : decode cX6_text 56 = .ok (.iconst 0, 1) := by decide +kernel
theorem dX6_text_57 : decode cX6_text 57 = .ok (.putfield 145, 3) := by decide +kernel
theorem dX6_text_60 : decode cX6_text 60 = .ok (.iload_n 2, 1) := by decide +kernel
theorem dX6_text_61 : decode cX6_text 61 = .ok (.ifCond .eq 24, 3) := by decide +kernel
theorem dX6_text_64 : decode cX6_text 64 = .ok (.iload_n 3, 1) := by decide +kernel
theorem dX6_text_65 : decode cX6_text 65 = .ok (.iconst (-1), 1) := by decide +kernel
theorem dX6_text_66 : decode cX6_text 66 = .ok (.if_icmp .ne 19, 3) := by decide +kernel
theorem dX6_text_69 : decode cX6_text 69 = .ok (.aload_n 0, 1) := by decide +kernel
theorem dX6_text_70 : decode cX6_text 70 = .ok (.aload_n 0, 1) := by decide +kernel
theorem dX6_text_71 : decode cX6_text 71 = .ok (.getfield 179, 3) := by decide +kernel
theorem dX6_text_74 : decode cX6_text 74 = .ok (.putfield 232, 3) := by decide +kernel
theorem dX6_text_77 : decode cX6_text 77 = .ok (.aload_n 0, 1) := by decide +kernel
theorem dX6_text_78 : decode cX6_text 78 = .ok (.aload_n 0, 1) := by decide +kernel
theorem dX6_text_79 : decode cX6_text 79 = .ok (.getfield 182, 3) := by decide +kernel
theorem dX6_text_82 : decode cX6_text 82 = .ok (.putfield 83, 3) := by decide +kernel
theorem dX6_text_85 : decode cX6_text 85 = .ok (.iload_n 3, 1) := by decide +kernel
theorem dX6_text_86 : decode cX6_text 86 = .ok (.iconst (-1), 1) := by decide +kernel
theorem dX6_text_87 : decode cX6_text 87 = .ok (.if_icmp .ne 5, 3) := by decide +kernel
theorem dX6_text_90 : decode cX6_text 90 = .ok (.iconst (-1), 1) := by decide +kernel
theorem dX6_text_91 : decode cX6_text 91 = .ok (.ireturn, 1) := by decide +kernel
theorem dX6_text_92 : decode cX6_text 92 = .ok (.iconst 0, 1) := by decide +kernel
theorem dX6_text_93 : decode cX6_text 93 = .ok (.istore 4, 2) := by decide +kernel
theorem dX6_text_95 : decode cX6_text 95 = .ok (.iload 4, 2) := by decide +kernel
theorem dX6_text_97 : decode cX6_text 97 = .ok (.iload_n 3, 1) := by decide +kernel
theorem dX6_text_98 : decode cX6_text 98 = .ok (.if_icmp .ge 75, 3) := by decide +kernel
theorem dX6_text_101 : decode cX6_text 101 = .ok (.aload_n 0, 1) := by decide +kernel
theorem dX6_text_102 : decode cX6_text 102 = .ok (.getfield 65, 3) := by decide +kernel
theorem dX6_text_105 : decode cX6_text 105 = .ok (.bipush 16, 2) := by decide +kernel
theorem dX6_text_107 : decode cX6_text 107 = .ok (.iload_n 1, 1) := by decide +kernel
theorem dX6_text_108 : decode cX6_text 108 = .ok (.imul, 1) := by decide +kernel
theorem dX6_text_109 : decode cX6_text 109 = .ok (.iload 4, 2) := by decide +kernel
theorem dX6_text_111 : decode cX6_text 111 = .ok (.iadd, 1) := by decide +kernel
theorem dX6_text_112 : decode cX6_text 112 = .ok (.aload_n 0, 1) := by decide +kernel
theorem dX6_text_113 : decode cX6_text 113 = .ok (.getfield 65, 3) := by decide +kernel
theorem dX6_text_116 : decode cX6_text 116 = .ok (.bipush 64, 2) := by decide +kernel
theorem dX6_text_118 : decode cX6_text 118 = .ok (.iload 4, 2) := by decide +kernel
theorem dX6_text_120 : decode cX6_text 120 = .ok (.iadd, 1) := by decide +kernel
theorem dX6_text_121 : decode cX6_text 121 = .ok (.iaload, 1) := by decide +kernel
theorem dX6_text_122 : decode cX6_text 122 = .ok (.iastore, 1) := by decide +kernel
theorem dX6_text_123 : decode cX6_text 123 = .ok (.aload_n 0, 1) := by decide +kernel
theorem dX6_text_124 : decode cX6_text 124 = .ok (.getfield 68, 3) := by decide +kernel
theorem dX6_text_127 : decode cX6_text 127 = .ok (.bipush 16, 2) := by decide +kernel
theorem dX6_text_129 : decode cX6_text 129 = .ok (.iload_n 1, 1) := by decide +kernel
theorem dX6_text_130 : decode cX6_text 130 = .ok (.imul, 1) := by decide +kernel
theorem dX6_text_131 : decode cX6_text 131 = .ok (.iload 4, 2) := by decide +kernel
theorem dX6_text_133 : decode cX6_text 133 = .ok (.iadd, 1) := by decide +kernel
theorem dX6_text_134 : decode cX6_text 134 = .ok (.aload_n 0, 1) := by decide +kernel
theorem dX6_text_135 : decode cX6_text 135 = .ok (.getfield 68, 3) := by decide +kernel
theorem dX6_text_138 : decode cX6_text 138 = .ok (.bipush 64, 2) := by decide +kernel
theorem dX6_text_140 : decode cX6_text 140 = .ok (.iload 4, 2) := by decide +kernel
theorem dX6_text_142 : decode cX6_text 142 = .ok (.iadd, 1) := by decide +kernel
theorem dX6_text_143 : decode cX6_text 143 = .ok (.iaload, 1) := by decide +kernel
theorem dX6_text_144 : decode cX6_text 144 = .ok (.iastore, 1) := by decide +kernel
theorem dX6_text_145 : decode cX6_text 145 = .ok (.aload_n 0, 1) := by decide +kernel
theorem dX6_text_146 : decode cX6_text 146 = .ok (.getfield 71, 3) := by decide +kernel
theorem dX6_text_149 : decode cX6_text 149 = .ok (.bipush 16, 2) := by decide +kernel
theorem dX6_text_151 : decode cX6_text 151 = .ok (.iload_n 1, 1) := by decide +kernel
theorem dX6_text_152 : decode cX6_text 152 = .ok (.imul, 1) := by decide +kernel
theorem dX6_text_153 : decode cX6_text 153 = .ok (.iload 4, 2) := by decide +kernel
theorem dX6_text_155 : decode cX6_text 155 = .ok (.iadd, 1) := by decide +kernel
theorem dX6_text_156 : decode cX6_text 156 = .ok (.aload_n 0, 1) := by decide +kernel
theorem dX6_text_157 : decode cX6_text 157 = .ok (.getfield 71, 3) := by decide +kernel
theorem dX6_text_160 : decode cX6_text 160 = .ok (.bipush 64, 2) := by decide +kernel
theorem dX6_text_162 : decode cX6_text 162 = .ok (.iload 4, 2) := by decide +kernel
theorem dX6_text_164 : decode cX6_text 164 = .ok (.iadd, 1) := by decide +kernel
theorem dX6_text_165 : decode cX6_text 165 = .ok (.iaload, 1) := by decide +kernel
theorem dX6_text_166 : decode cX6_text 166 = .ok (.iastore, 1) := by decide +kernel
theorem dX6_text_167 : decode cX6_text 167 = .ok (.iinc 4 1, 3) := by decide +kernel
theorem dX6_text_170 : decode cX6_text 170 = .ok (.goto (-75), 3) := by decide +kernel
theorem dX6_text_173 : decode cX6_text 173 = .ok (.iconst 0, 1) := by decide +kernel
theorem dX6_text_174 : decode cX6_text 174 = .ok (.istore 4, 2) := by decide +kernel
theorem dX6_text_176 : decode cX6_text 176 = .ok (.iload 4, 2) := by decide +kernel
theorem dX6_text_178 : decode cX6_text 178 = .ok (.aload_n 0, 1) := by decide +kernel
theorem dX6_text_179 : decode cX6_text 179 = .ok (.getfield 185, 3) := by decide +kernel
theorem dX6_text_182 : decode cX6_text 182 = .ok (.if_icmp .ge 57, 3) := by decide +kernel
theorem dX6_text_185 : decode cX6_text 185 = .ok (.aload_n 0, 1) := by decide +kernel
theorem dX6_text_186 : decode cX6_text 186 = .ok (.getfield 74, 3) := by decide +kernel
theorem dX6_text_189 : decode cX6_text 189 = .ok (.sipush 400, 3) := by decide +kernel
theorem dX6_text_192 : decode cX6_text 192 = .ok (.iload_n 1, 1) := by decide +kernel
theorem dX6_text_193 : decode cX6_text 193 = .ok (.imul, 1) := by decide +kernel
theorem dX6_text_194 : decode cX6_text 194 = .ok (.iload 4, 2) := by decide +kernel
theorem dX6_text_196 : decode cX6_text 196 = .ok (.iadd, 1) := by decide +kernel
theorem dX6_text_197 : decode cX6_text 197 = .ok (.aload_n 0, 1) := by decide +kernel
theorem dX6_text_198 : decode cX6_text 198 = .ok (.getfield 74, 3) := by decide +kernel
theorem dX6_text_201 : decode cX6_text 201 = .ok (.sipush 1600, 3) := by decide +kernel
theorem dX6_text_204 : decode cX6_text 204 = .ok (.iload 4, 2) := by decide +kernel
theorem dX6_text_206 : decode cX6_text 206 = .ok (.iadd, 1) := by decide +kernel
theorem dX6_text_207 : decode cX6_text 207 = .ok (.iaload, 1) := by decide +kernel
theorem dX6_text_208 : decode cX6_text 208 = .ok (.iastore, 1) := by decide +kernel
theorem dX6_text_209 : decode cX6_text 209 = .ok (.aload_n 0, 1) := by decide +kernel
theorem dX6_text_210 : decode cX6_text 210 = .ok (.getfield 77, 3) := by decide +kernel
theorem dX6_text_213 : decode cX6_text 213 = .ok (.sipush 400, 3) := by decide +kernel
theorem dX6_text_216 : decode cX6_text 216 = .ok (.iload_n 1, 1) := by decide +kernel
theorem dX6_text_217 : decode cX6_text 217 = .ok (.imul, 1) := by decide +kernel
theorem dX6_text_218 : decode cX6_text 218 = .ok (.iload 4, 2) := by decide +kernel
theorem dX6_text_220 : decode cX6_text 220 = .ok (.iadd, 1) := by decide +kernel
theorem dX6_text_221 : decode cX6_text 221 = .ok (.aload_n 0, 1) := by decide +kernel
theorem dX6_text_222 : decode cX6_text 222 = .ok (.getfield 77, 3) := by decide +kernel
theorem dX6_text_225 : decode cX6_text 225 = .ok (.sipush 1600, 3) := by decide +kernel
theorem dX6_text_228 : decode cX6_text 228 = .ok (.iload 4, 2) := by decide +kernel
theorem dX6_text_230 : decode cX6_text 230 = .ok (.iadd, 1) := by decide +kernel
theorem dX6_text_231 : decode cX6_text 231 = .ok (.iaload, 1) := by decide +kernel
theorem dX6_text_232 : decode cX6_text 232 = .ok (.iastore, 1) := by decide +kernel
theorem dX6_text_233 : decode cX6_text 233 = .ok (.iinc 4 1, 3) := by decide +kernel
theorem dX6_text_236 : decode cX6_text 236 = .ok (.goto (-60), 3) := by decide +kernel
theorem dX6_text_239 : decode cX6_text 239 = .ok (.aload_n 0, 1) := by decide +kernel
theorem dX6_text_240 : decode cX6_text 240 = .ok (.getfield 62, 3) := by decide +kernel
theorem dX6_text_243 : decode cX6_text 243 = .ok (.iload_n 1, 1) := by decide +kernel
theorem dX6_text_244 : decode cX6_text 244 = .ok (.iload_n 3, 1) := by decide +kernel
theorem dX6_text_245 : decode cX6_text 245 = .ok (.iastore, 1) := by decide +kernel
theorem dX6_text_246 : decode cX6_text 246 = .ok (.iload_n 3, 1) := by decide +kernel
theorem dX6_text_247 : decode cX6_text 247 = .ok (.ireturn, 1) := by decide +kernel
theorem dX6_fault_0 : decode cX6_fault 0 = .ok (.aload_n 0, 1) := by decide +kernel
theorem dX6_fault_1 : decode cX6_fault 1 = .ok (.iconst 0, 1) := by decide +kernel
theorem dX6_fault_2 : decode cX6_fault 2 = .ok (.putfield 121, 3) := by decide +kernel
theorem dX6_fault_5 : decode cX6_fault 5 = .ok (.iload_n 1, 1) := by decide +kernel
theorem dX6_fault_6 : decode cX6_fault 6 = .ok (.ifCond .ne 10, 3) := by decide +kernel
theorem dX6_fault_9 : decode cX6_fault 9 = .ok (.aload_n 0, 1) := by decide +kernel
theorem dX6_fault_10 : decode cX6_fault 10 = .ok (.getfield 232, 3) := by decide +kernel
theorem dX6_fault_13 : decode cX6_fault 13 = .ok (.goto 16, 3) := by decide +kernel
theorem dX6_fault_16 : decode cX6_fault 16 = .ok (.iload_n 1, 1) := by decide +kernel
theorem dX6_fault_17 : decode cX6_fault 17 = .ok (.iconst 1, 1) := by decide +kernel
theorem dX6_fault_18 : decode cX6_fault 18 = .ok (.if_icmp .ne 10, 3) := by decide +kernel
theorem dX6_fault_21 : decode cX6_fault 21 = .ok (.aload_n 0, 1) := by decide +kernel
theorem dX6_fault_22 : decode cX6_fault 22 = .ok (.getfield 83, 3) := by decide +kernel
theorem dX6_fault_25 : decode cX6_fault 25 = .ok (.goto 4, 3) := by decide +kernel
theorem dX6_fault_28 : decode cX6_fault 28 = .ok (.iconst (-1), 1) := by decide +kernel
theorem dX6_fault_29 : decode cX6_fault 29 = .ok (.ireturn, 1) := by decide +kernel
theorem dX6_twoOf_0 : decode cX6_twoOf 0 = .ok (.iload_n 1, 1) := by decide +kernel
theorem dX6_twoOf_1 : decode cX6_twoOf 1 = .ok (.iconst 2, 1) := by decide +kernel
theorem dX6_twoOf_2 : decode cX6_twoOf 2 = .ok (.if_icmp .ne 7, 3) := by decide +kernel
theorem dX6_twoOf_5 : decode cX6_twoOf 5 = .ok (.iload_n 2, 1) := by decide +kernel
theorem dX6_twoOf_6 : decode cX6_twoOf 6 = .ok (.iload_n 3, 1) := by decide +kernel
theorem dX6_twoOf_7 : decode cX6_twoOf 7 = .ok (.iadd, 1) := by decide +kernel
theorem dX6_twoOf_8 : decode cX6_twoOf 8 = .ok (.ireturn, 1) := by decide +kernel
theorem dX6_twoOf_9 : decode cX6_twoOf 9 = .ok (.iload_n 1, 1) := by decide +kernel
theorem dX6_twoOf_10 : decode cX6_twoOf 10 = .ok (.iconst 3, 1) := by decide +kernel
theorem dX6_twoOf_11 : decode cX6_twoOf 11 = .ok (.if_icmp .ne 7, 3) := by decide +kernel
theorem dX6_twoOf_14 : decode cX6_twoOf 14 = .ok (.iload_n 2, 1) := by decide +kernel
theorem dX6_twoOf_15 : decode cX6_twoOf 15 = .ok (.iload_n 3, 1) := by decide +kernel
theorem dX6_twoOf_16 : decode cX6_twoOf 16 = .ok (.isub, 1) := by decide +kernel
theorem dX6_twoOf_17 : decode cX6_twoOf 17 = .ok (.ireturn, 1) := by decide +kernel
theorem dX6_twoOf_18 : decode cX6_twoOf 18 = .ok (.iload_n 1, 1) := by decide +kernel
theorem dX6_twoOf_19 : decode cX6_twoOf 19 = .ok (.iconst 4, 1) := by decide +kernel
theorem dX6_twoOf_20 : decode cX6_twoOf 20 = .ok (.if_icmp .ne 7, 3) := by decide +kernel
theorem dX6_twoOf_23 : decode cX6_twoOf 23 = .ok (.iload_n 2, 1) := by decide +kernel
theorem dX6_twoOf_24 : decode cX6_twoOf 24 = .ok (.iload_n 3, 1) := by decide +kernel
theorem dX6_twoOf_25 : decode cX6_twoOf 25 = .ok (.imul, 1) := by decide +kernel
theorem dX6_twoOf_26 : decode cX6_twoOf 26 = .ok (.ireturn, 1) := by decide +kernel
theorem dX6_twoOf_27 : decode cX6_twoOf 27 = .ok (.iload_n 1, 1) := by decide +kernel
theorem dX6_twoOf_28 : decode cX6_twoOf 28 = .ok (.iconst 5, 1) := by decide +kernel
theorem dX6_twoOf_29 : decode cX6_twoOf 29 = .ok (.if_icmp .ne 7, 3) := by decide +kernel
theorem dX6_twoOf_32 : decode cX6_twoOf 32 = .ok (.iload_n 2, 1) := by decide +kernel
theorem dX6_twoOf_33 : decode cX6_twoOf 33 = .ok (.iload_n 3, 1) := by decide +kernel
theorem dX6_twoOf_34 : decode cX6_twoOf 34 = .ok (.idiv, 1) := by decide +kernel
theorem dX6_twoOf_35 : decode cX6_twoOf 35 = .ok (.ireturn, 1) := by decide +kernel
theorem dX6_twoOf_36 : decode cX6_twoOf 36 = .ok (.iload_n 1, 1) := by decide +kernel
theorem dX6_twoOf_37 : decode cX6_twoOf 37 = .ok (.bipush 6, 2) := by decide +kernel
theorem dX6_twoOf_39 : decode cX6_twoOf 39 = .ok (.if_icmp .ne 14, 3) := by decide +kernel
theorem dX6_twoOf_42 : decode cX6_twoOf 42 = .ok (.iload_n 2, 1) := by decide +kernel
theorem dX6_twoOf_43 : decode cX6_twoOf 43 = .ok (.iload_n 3, 1) := by decide +kernel
theorem dX6_twoOf_44 : decode cX6_twoOf 44 = .ok (.if_icmp .ge 7, 3) := by decide +kernel
theorem dX6_twoOf_47 : decode cX6_twoOf 47 = .ok (.iconst 1, 1) := by decide +kernel
theorem dX6_twoOf_48 : decode cX6_twoOf 48 = .ok (.goto 4, 3) := by decide +kernel
theorem dX6_twoOf_51 : decode cX6_twoOf 51 = .ok (.iconst 0, 1) := by decide +kernel
theorem dX6_twoOf_52 : decode cX6_twoOf 52 = .ok (.ireturn, 1) := by decide +kernel
theorem dX6_twoOf_53 : decode cX6_twoOf 53 = .ok (.iload_n 1, 1) := by decide +kernel
theorem dX6_twoOf_54 : decode cX6_twoOf 54 = .ok (.bipush 7, 2) := by decide +kernel
theorem dX6_twoOf_56 : decode cX6_twoOf 56 = .ok (.if_icmp .ne 14, 3) := by decide +kernel
theorem dX6_twoOf_59 : decode cX6_twoOf 59 = .ok (.iload_n 2, 1) := by decide +kernel
theorem dX6_twoOf_60 : decode cX6_twoOf 60 = .ok (.iload_n 3, 1) := by decide +kernel
theorem dX6_twoOf_61 : decode cX6_twoOf 61 = .ok (.if_icmp .ne 7, 3) := by decide +kernel
theorem dX6_twoOf_64 : decode cX6_twoOf 64 = .ok (.iconst 1, 1) := by decide +kernel
theorem dX6_twoOf_65 : decode cX6_twoOf 65 = .ok (.goto 4, 3) := by decide +kernel
theorem dX6_twoOf_68 : decode cX6_twoOf 68 = .ok (.iconst 0, 1) := by decide +kernel
theorem dX6_twoOf_69 : decode cX6_twoOf 69 = .ok (.ireturn, 1) := by decide +kernel
theorem dX6_twoOf_70 : decode cX6_twoOf 70 = .ok (.iload_n 1, 1) := by decide +kernel
theorem dX6_twoOf_71 : decode cX6_twoOf 71 = .ok (.bipush 8, 2) := by decide +kernel
theorem dX6_twoOf_73 : decode cX6_twoOf 73 = .ok (.if_icmp .ne 14, 3) := by decide +kernel
theorem dX6_twoOf_76 : decode cX6_twoOf 76 = .ok (.iload_n 2, 1) := by decide +kernel
theorem dX6_twoOf_77 : decode cX6_twoOf 77 = .ok (.iload_n 3, 1) := by decide +kernel
theorem dX6_twoOf_78 : decode cX6_twoOf 78 = .ok (.if_icmp .le 7, 3) := by decide +kernel
theorem dX6_twoOf_81 : decode cX6_twoOf 81 = .ok (.iconst 1, 1) := by decide +kernel
theorem dX6_twoOf_82 : decode cX6_twoOf 82 = .ok (.goto 4, 3) := by decide +kernel
theorem dX6_twoOf_85 : decode cX6_twoOf 85 = .ok (.iconst 0, 1) := by decide +kernel
theorem dX6_twoOf_86 : decode cX6_twoOf 86 = .ok (.ireturn, 1) := by decide +kernel
theorem dX6_twoOf_87 : decode cX6_twoOf 87 = .ok (.iload_n 1, 1) := by decide +kernel
theorem dX6_twoOf_88 : decode cX6_twoOf 88 = .ok (.bipush 10, 2) := by decide +kernel
theorem dX6_twoOf_90 : decode cX6_twoOf 90 = .ok (.if_icmp .ne 9, 3) := by decide +kernel
theorem dX6_twoOf_93 : decode cX6_twoOf 93 = .ok (.iload_n 2, 1) := by decide +kernel
theorem dX6_twoOf_94 : decode cX6_twoOf 94 = .ok (.iload_n 3, 1) := by decide +kernel
theorem dX6_twoOf_95 : decode cX6_twoOf 95 = .ok (.imul, 1) := by decide +kernel
theorem dX6_twoOf_96 : decode cX6_twoOf 96 = .ok (.goto 14, 3) := by decide +kernel
theorem dX6_twoOf_99 : decode cX6_twoOf 99 = .ok (.iload_n 2, 1) := by decide +kernel
theorem dX6_twoOf_100 : decode cX6_twoOf 100 = .ok (.iload_n 3, 1) := by decide +kernel
theorem dX6_twoOf_101 : decode cX6_twoOf 101 = .ok (.iadd, 1) := by decide +kernel
theorem dX6_twoOf_102 : decode cX6_twoOf 102 = .ok (.ifCond .le 7, 3) := by decide +kernel
theorem dX6_twoOf_105 : decode cX6_twoOf 105 = .ok (.iconst 1, 1) := by decide +kernel
theorem dX6_twoOf_106 : decode cX6_twoOf 106 = .ok (.goto 4, 3) := by decide +kernel
theorem dX6_twoOf_109 : decode cX6_twoOf 109 = .ok (.iconst 0, 1) := by decide +kernel
theorem dX6_twoOf_110 : decode cX6_twoOf 110 = .ok (.ireturn, 1) := by decide +kernel
set_option maxRecDepth 20000 in
theorem ggX6_worthAt_X6_twoOf : GoodIn wsX6_worthAt wsX6_twoOf := goodIn_r _ [9] rfl (by decide +kernel)
set_option maxRecDepth 20000 in
theorem gX6_worthAt_X6_twoOf : GoodIn wsX6_worthAt (wsV RX6 238 RX6 yX6_twoOf wsX6_twoOf) := goodIn_app (goodIn_of _ (by decide +kernel)) ggX6_worthAt_X6_twoOf
theorem dX6_worthAt_0 : decode cX6_worthAt 0 = .ok (.iconst 0, 1) := by decide +kernel
theorem dX6_worthAt_1 : decode cX6_worthAt 1 = .ok (.istore 4, 2) := by decide +kernel
theorem dX6_worthAt_3 : decode cX6_worthAt 3 = .ok (.sipush 400, 3) := by decide +kernel
theorem dX6_worthAt_6 : decode cX6_worthAt 6 = .ok (.iload_n 1, 1) := by decide +kernel
theorem dX6_worthAt_7 : decode cX6_worthAt 7 = .ok (.imul, 1) := by decide +kernel
theorem dX6_worthAt_8 : decode cX6_worthAt 8 = .ok (.iload_n 2, 1) := by decide +kernel
theorem dX6_worthAt_9 : decode cX6_worthAt 9 = .ok (.iadd, 1) := by decide +kernel
theorem dX6_worthAt_10 : decode cX6_worthAt 10 = .ok (.istore 5, 2) := by decide +kernel
theorem dX6_worthAt_12 : decode cX6_worthAt 12 = .ok (.iload 5, 2) := by decide +kernel
theorem dX6_worthAt_14 : decode cX6_worthAt 14 = .ok (.sipush 400, 3) := by decide +kernel
theorem dX6_worthAt_17 : decode cX6_worthAt 17 = .ok (.iload_n 1, 1) := by decide +kernel
theorem dX6_worthAt_18 : decode cX6_worthAt 18 = .ok (.imul, 1) := by decide +kernel
theorem dX6_worthAt_19 : decode cX6_worthAt 19 = .ok (.iload_n 3, 1) := by decide +kernel
theorem dX6_worthAt_20 : decode cX6_worthAt 20 = .ok (.iadd, 1) := by decide +kernel
theorem dX6_worthAt_21 : decode cX6_worthAt 21 = .ok (.if_icmp .ge 155, 3) := by decide +kernel
theorem dX6_worthAt_24 : decode cX6_worthAt 24 = .ok (.aload_n 0, 1) := by decide +kernel
theorem dX6_worthAt_25 : decode cX6_worthAt 25 = .ok (.getfield 74, 3) := by decide +kernel
theorem dX6_worthAt_28 : decode cX6_worthAt 28 = .ok (.iload 5, 2) := by decide +kernel
theorem dX6_worthAt_30 : decode cX6_worthAt 30 = .ok (.iaload, 1) := by decide +kernel
theorem dX6_worthAt_31 : decode cX6_worthAt 31 = .ok (.ifCond .eq 14, 3) := by decide +kernel
theorem dX6_worthAt_34 : decode cX6_worthAt 34 = .ok (.aload_n 0, 1) := by decide +kernel
theorem dX6_worthAt_35 : decode cX6_worthAt 35 = .ok (.getfield 74, 3) := by decide +kernel
theorem dX6_worthAt_38 : decode cX6_worthAt 38 = .ok (.iload 5, 2) := by decide +kernel
theorem dX6_worthAt_40 : decode cX6_worthAt 40 = .ok (.iaload, 1) := by decide +kernel
theorem dX6_worthAt_41 : decode cX6_worthAt 41 = .ok (.iconst 1, 1) := by decide +kernel
theorem dX6_worthAt_42 : decode cX6_worthAt 42 = .ok (.if_icmp .ne 51, 3) := by decide +kernel
theorem dX6_worthAt_45 : decode cX6_worthAt 45 = .ok (.aload_n 0, 1) := by decide +kernel
theorem dX6_worthAt_46 : decode cX6_worthAt 46 = .ok (.getfield 89, 3) := by decide +kernel
theorem dX6_worthAt_49 : decode cX6_worthAt 49 = .ok (.iload 4, 2) := by decide +kernel
theorem dX6_worthAt_51 : decode cX6_worthAt 51 = .ok (.aload_n 0, 1) := by decide +kernel
theorem dX6_worthAt_52 : decode cX6_worthAt 52 = .ok (.getfield 74, 3) := by decide +kernel
theorem dX6_worthAt_55 : decode cX6_worthAt 55 = .ok (.iload 5, 2) := by decide +kernel
theorem dX6_worthAt_57 : decode cX6_worthAt 57 = .ok (.iaload, 1) := by decide +kernel
theorem dX6_worthAt_58 : decode cX6_worthAt 58 = .ok (.ifCond .ne 13, 3) := by decide +kernel
theorem dX6_worthAt_61 : decode cX6_worthAt 61 = .ok (.aload_n 0, 1) := by decide +kernel
theorem dX6_worthAt_62 : decode cX6_worthAt 62 = .ok (.getfield 77, 3) := by decide +kernel
theorem dX6_worthAt_65 : decode cX6_worthAt 65 = .ok (.iload 5, 2) := by decide +kernel
theorem dX6_worthAt_67 : decode cX6_worthAt 67 = .ok (.iaload, 1) := by decide +kernel
theorem dX6_worthAt_68 : decode cX6_worthAt 68 = .ok (.goto 15, 3) := by decide +kernel
theorem dX6_worthAt_71 : decode cX6_worthAt 71 = .ok (.aload_n 0, 1) := by decide +kernel
theorem dX6_worthAt_72 : decode cX6_worthAt 72 = .ok (.getfield 86, 3) := by decide +kernel
theorem dX6_worthAt_75 : decode cX6_worthAt 75 = .ok (.aload_n 0, 1) := by decide +kernel
theorem dX6_worthAt_76 : decode cX6_worthAt 76 = .ok (.getfield 77, 3) := by decide +kernel
theorem dX6_worthAt_79 : decode cX6_worthAt 79 = .ok (.iload 5, 2) := by decide +kernel
theorem dX6_worthAt_81 : decode cX6_worthAt 81 = .ok (.iaload, 1) := by decide +kernel
theorem dX6_worthAt_82 : decode cX6_worthAt 82 = .ok (.iaload, 1) := by decide +kernel
theorem dX6_worthAt_83 : decode cX6_worthAt 83 = .ok (.iastore, 1) := by decide +kernel
theorem dX6_worthAt_84 : decode cX6_worthAt 84 = .ok (.iload 4, 2) := by decide +kernel
theorem dX6_worthAt_86 : decode cX6_worthAt 86 = .ok (.iconst 1, 1) := by decide +kernel
theorem dX6_worthAt_87 : decode cX6_worthAt 87 = .ok (.iadd, 1) := by decide +kernel
theorem dX6_worthAt_88 : decode cX6_worthAt 88 = .ok (.istore 4, 2) := by decide +kernel
theorem dX6_worthAt_90 : decode cX6_worthAt 90 = .ok (.goto 80, 3) := by decide +kernel
theorem dX6_worthAt_93 : decode cX6_worthAt 93 = .ok (.aload_n 0, 1) := by decide +kernel
theorem dX6_worthAt_94 : decode cX6_worthAt 94 = .ok (.getfield 74, 3) := by decide +kernel
theorem dX6_worthAt_97 : decode cX6_worthAt 97 = .ok (.iload 5, 2) := by decide +kernel
theorem dX6_worthAt_99 : decode cX6_worthAt 99 = .ok (.iaload, 1) := by decide +kernel
theorem dX6_worthAt_100 : decode cX6_worthAt 100 = .ok (.bipush 9, 2) := by decide +kernel
theorem dX6_worthAt_102 : decode cX6_worthAt 102 = .ok (.if_icmp .ne 26, 3) := by decide +kernel
theorem dX6_worthAt_105 : decode cX6_worthAt 105 = .ok (.aload_n 0, 1) := by decide +kernel
theorem dX6_worthAt_106 : decode cX6_worthAt 106 = .ok (.getfield 89, 3) := by decide +kernel
theorem dX6_worthAt_109 : decode cX6_worthAt 109 = .ok (.iload 4, 2) := by decide +kernel
theorem dX6_worthAt_111 : decode cX6_worthAt 111 = .ok (.iconst 1, 1) := by decide +kernel
theorem dX6_worthAt_112 : decode cX6_worthAt 112 = .ok (.isub, 1) := by decide +kernel
theorem dX6_worthAt_113 : decode cX6_worthAt 113 = .ok (.iconst 1, 1) := by decide +kernel
theorem dX6_worthAt_114 : decode cX6_worthAt 114 = .ok (.aload_n 0, 1) := by decide +kernel
theorem dX6_worthAt_115 : decode cX6_worthAt 115 = .ok (.getfield 89, 3) := by decide +kernel
theorem dX6_worthAt_118 : decode cX6_worthAt 118 = .ok (.iload 4, 2) := by decide +kernel
theorem dX6_worthAt_120 : decode cX6_worthAt 120 = .ok (.iconst 1, 1) := by decide +kernel
theorem dX6_worthAt_121 : decode cX6_worthAt 121 = .ok (.isub, 1) := by decide +kernel
theorem dX6_worthAt_122 : decode cX6_worthAt 122 = .ok (.iaload, 1) := by decide +kernel
theorem dX6_worthAt_123 : decode cX6_worthAt 123 = .ok (.isub, 1) := by decide +kernel
theorem dX6_worthAt_124 : decode cX6_worthAt 124 = .ok (.iastore, 1) := by decide +kernel
theorem dX6_worthAt_125 : decode cX6_worthAt 125 = .ok (.goto 45, 3) := by decide +kernel
theorem dX6_worthAt_128 : decode cX6_worthAt 128 = .ok (.iload 4, 2) := by decide +kernel
theorem dX6_worthAt_130 : decode cX6_worthAt 130 = .ok (.iconst 1, 1) := by decide +kernel
theorem dX6_worthAt_131 : decode cX6_worthAt 131 = .ok (.isub, 1) := by decide +kernel
theorem dX6_worthAt_132 : decode cX6_worthAt 132 = .ok (.istore 4, 2) := by decide +kernel
theorem dX6_worthAt_134 : decode cX6_worthAt 134 = .ok (.aload_n 0, 1) := by decide +kernel
theorem dX6_worthAt_135 : decode cX6_worthAt 135 = .ok (.getfield 89, 3) := by decide +kernel
theorem dX6_worthAt_138 : decode cX6_worthAt 138 = .ok (.iload 4, 2) := by decide +kernel
theorem dX6_worthAt_140 : decode cX6_worthAt 140 = .ok (.iconst 1, 1) := by decide +kernel
theorem dX6_worthAt_141 : decode cX6_worthAt 141 = .ok (.isub, 1) := by decide +kernel
theorem dX6_worthAt_142 : decode cX6_worthAt 142 = .ok (.aload_n 0, 1) := by decide +kernel
theorem dX6_worthAt_143 : decode cX6_worthAt 143 = .ok (.aload_n 0, 1) := by decide +kernel
theorem dX6_worthAt_144 : decode cX6_worthAt 144 = .ok (.getfield 74, 3) := by decide +kernel
theorem dX6_worthAt_147 : decode cX6_worthAt 147 = .ok (.iload 5, 2) := by decide +kernel
theorem dX6_worthAt_149 : decode cX6_worthAt 149 = .ok (.iaload, 1) := by decide +kernel
theorem dX6_worthAt_150 : decode cX6_worthAt 150 = .ok (.aload_n 0, 1) := by decide +kernel
theorem dX6_worthAt_151 : decode cX6_worthAt 151 = .ok (.getfield 89, 3) := by decide +kernel
theorem dX6_worthAt_154 : decode cX6_worthAt 154 = .ok (.iload 4, 2) := by decide +kernel
theorem dX6_worthAt_156 : decode cX6_worthAt 156 = .ok (.iconst 1, 1) := by decide +kernel
theorem dX6_worthAt_157 : decode cX6_worthAt 157 = .ok (.isub, 1) := by decide +kernel
theorem dX6_worthAt_158 : decode cX6_worthAt 158 = .ok (.iaload, 1) := by decide +kernel
theorem dX6_worthAt_159 : decode cX6_worthAt 159 = .ok (.aload_n 0, 1) := by decide +kernel
theorem dX6_worthAt_160 : decode cX6_worthAt 160 = .ok (.getfield 89, 3) := by decide +kernel
theorem dX6_worthAt_163 : decode cX6_worthAt 163 = .ok (.iload 4, 2) := by decide +kernel
theorem dX6_worthAt_165 : decode cX6_worthAt 165 = .ok (.iaload, 1) := by decide +kernel
theorem dX6_worthAt_166 : decode cX6_worthAt 166 = .ok (.invokevirtual 238, 3) := by decide +kernel
theorem dX6_worthAt_169 : decode cX6_worthAt 169 = .ok (.iastore, 1) := by decide +kernel
theorem dX6_worthAt_170 : decode cX6_worthAt 170 = .ok (.iinc 5 1, 3) := by decide +kernel
theorem dX6_worthAt_173 : decode cX6_worthAt 173 = .ok (.goto (-161), 3) := by decide +kernel
theorem dX6_worthAt_176 : decode cX6_worthAt 176 = .ok (.aload_n 0, 1) := by decide +kernel
theorem dX6_worthAt_177 : decode cX6_worthAt 177 = .ok (.getfield 89, 3) := by decide +kernel
theorem dX6_worthAt_180 : decode cX6_worthAt 180 = .ok (.iconst 0, 1) := by decide +kernel
theorem dX6_worthAt_181 : decode cX6_worthAt 181 = .ok (.iaload, 1) := by decide +kernel
theorem dX6_worthAt_182 : decode cX6_worthAt 182 = .ok (.ireturn, 1) := by decide +kernel
set_option maxRecDepth 20000 in
theorem ggX6_doingBy_X6_worthAt : GoodIn wsX6_doingBy wsX6_worthAt := goodIn_r _ [9, 10, 11, 12, 13, 14, 15, 16, 8, 17, 18, 19, 20, 21, 22, 23, 24, 25, 26, 27, 28, 29, 30, 31, 32, 33, 34, 35, 36, 37, 38, 39, 40, 41, 42, 43, 44, 45, 46, 47, 48, 49, 50, 51, 52, 53, 54, 55, 56, 57, 58, 59, 60, 61, 62, 63, 64, 65, 66, 67, 68, 69, 70, 71, 72] rfl (by decide +kernel)
set_option maxRecDepth 20000 in
theorem gX6_doingBy_X6_worthAt : GoodIn wsX6_doingBy (wsV RX6 242 RX6 yX6_worthAt wsX6_worthAt) := goodIn_app (goodIn_of _ (by decide +kernel)) ggX6_doingBy_X6_worthAt
theorem dX6_doingBy_0 : decode cX6_doingBy 0 = .ok (.bipush 16, 2) := by decide +kernel
theorem dX6_doingBy_2 : decode cX6_doingBy 2 = .ok (.iload_n 1, 1) := by decide +kernel
theorem dX6_doingBy_3 : decode cX6_doingBy 3 = .ok (.imul, 1) := by decide +kernel
theorem dX6_doingBy_4 : decode cX6_doingBy 4 = .ok (.istore_n 2, 1) := by decide +kernel
theorem dX6_doingBy_5 : decode cX6_doingBy 5 = .ok (.iload_n 2, 1) := by decide +kernel
theorem dX6_doingBy_6 : decode cX6_doingBy 6 = .ok (.bipush 16, 2) := by decide +kernel
theorem dX6_doingBy_8 : decode cX6_doingBy 8 = .ok (.iload_n 1, 1) := by decide +kernel
theorem dX6_doingBy_9 : decode cX6_doingBy 9 = .ok (.imul, 1) := by decide +kernel
theorem dX6_doingBy_10 : decode cX6_doingBy 10 = .ok (.aload_n 0, 1) := by decide +kernel
theorem dX6_doingBy_11 : decode cX6_doingBy 11 = .ok (.getfield 62, 3) := by decide +kernel
theorem dX6_doingBy_14 : decode cX6_doingBy 14 = .ok (.iload_n 1, 1) := by decide +kernel
theorem dX6_doingBy_15 : decode cX6_doingBy 15 = .ok (.iaload, 1) := by decide +kernel
theorem dX6_doingBy_16 : decode cX6_doingBy 16 = .ok (.iadd, 1) := by decide +kernel
theorem dX6_doingBy_17 : decode cX6_doingBy 17 = .ok (.if_icmp .ge 51, 3) := by decide +kernel
theorem dX6_doingBy_20 : decode cX6_doingBy 20 = .ok (.aload_n 0, 1) := by decide +kernel
theorem dX6_doingBy_21 : decode cX6_doingBy 21 = .ok (.getfield 71, 3) := by decide +kernel
theorem dX6_doingBy_24 : decode cX6_doingBy 24 = .ok (.iload_n 2, 1) := by decide +kernel
theorem dX6_doingBy_25 : decode cX6_doingBy 25 = .ok (.iaload, 1) := by decide +kernel
theorem dX6_doingBy_26 : decode cX6_doingBy 26 = .ok (.aload_n 0, 1) := by decide +kernel
theorem dX6_doingBy_27 : decode cX6_doingBy 27 = .ok (.getfield 68, 3) := by decide +kernel
theorem dX6_doingBy_30 : decode cX6_doingBy 30 = .ok (.iload_n 2, 1) := by decide +kernel
theorem dX6_doingBy_31 : decode cX6_doingBy 31 = .ok (.iaload, 1) := by decide +kernel
theorem dX6_doingBy_32 : decode cX6_doingBy 32 = .ok (.if_icmp .eq 23, 3) := by decide +kernel
theorem dX6_doingBy_35 : decode cX6_doingBy 35 = .ok (.aload_n 0, 1) := by decide +kernel
theorem dX6_doingBy_36 : decode cX6_doingBy 36 = .ok (.iload_n 1, 1) := by decide +kernel
theorem dX6_doingBy_37 : decode cX6_doingBy 37 = .ok (.aload_n 0, 1) := by decide +kernel
theorem dX6_doingBy_38 : decode cX6_doingBy 38 = .ok (.getfield 68, 3) := by decide +kernel
theorem dX6_doingBy_41 : decode cX6_doingBy 41 = .ok (.iload_n 2, 1) := by decide +kernel
theorem dX6_doingBy_42 : decode cX6_doingBy 42 = .ok (.iaload, 1) := by decide +kernel
theorem dX6_doingBy_43 : decode cX6_doingBy 43 = .ok (.aload_n 0, 1) := by decide +kernel
theorem dX6_doingBy_44 : decode cX6_doingBy 44 = .ok (.getfield 71, 3) := by decide +kernel
theorem dX6_doingBy_47 : decode cX6_doingBy 47 = .ok (.iload_n 2, 1) := by decide +kernel
theorem dX6_doingBy_48 : decode cX6_doingBy 48 = .ok (.iaload, 1) := by decide +kernel
theorem dX6_doingBy_49 : decode cX6_doingBy 49 = .ok (.invokevirtual 242, 3) := by decide +kernel
theorem dX6_doingBy_52 : decode cX6_doingBy 52 = .ok (.ifCond .eq 10, 3) := by decide +kernel
theorem dX6_doingBy_55 : decode cX6_doingBy 55 = .ok (.aload_n 0, 1) := by decide +kernel
theorem dX6_doingBy_56 : decode cX6_doingBy 56 = .ok (.getfield 65, 3) := by decide +kernel
theorem dX6_doingBy_59 : decode cX6_doingBy 59 = .ok (.iload_n 2, 1) := by decide +kernel
theorem dX6_doingBy_60 : decode cX6_doingBy 60 = .ok (.iaload, 1) := by decide +kernel
theorem dX6_doingBy_61 : decode cX6_doingBy 61 = .ok (.ireturn, 1) := by decide +kernel
theorem dX6_doingBy_62 : decode cX6_doingBy 62 = .ok (.iinc 2 1, 3) := by decide +kernel
theorem dX6_doingBy_65 : decode cX6_doingBy 65 = .ok (.goto (-60), 3) := by decide +kernel
theorem dX6_doingBy_68 : decode cX6_doingBy 68 = .ok (.iconst 0, 1) := by decide +kernel
theorem dX6_doingBy_69 : decode cX6_doingBy 69 = .ok (.ireturn, 1) := by decide +kernel
set_option maxRecDepth 20000 in
theorem ggX6_doingOf_X6_leftOf : GoodIn wsX6_doingOf wsX6_leftOf := goodIn_r _ [15, 16, 48, 49, 50, 51, 52, 53, 54, 55, 56, 57, 58, 59, 60, 61, 62, 63, 64, 65, 66, 67, 68, 69, 70, 71, 72, 73, 74, 75, 76, 77, 78, 79, 80, 81, 82, 83, 84, 85, 86, 87, 88, 89, 90, 91, 92, 93, 94, 95, 96, 97, 98, 99, 100, 101, 102] rfl (by decide +kernel)
set_option maxRecDepth 20000 in
theorem gX6_doingOf_X6_leftOf : GoodIn wsX6_doingOf (wsV RX6 245 RX6 yX6_leftOf wsX6_leftOf) := goodIn_app (goodIn_of _ (by decide +kernel)) ggX6_doingOf_X6_leftOf
set_option maxRecDepth 20000 in
theorem ggX6_doingOf_X6_rightOf : GoodIn wsX6_doingOf wsX6_rightOf := goodIn_r _ [20, 16, 48, 49, 50, 51, 52, 53, 54, 55, 56, 57, 58, 59, 60, 61, 62, 63, 64, 65, 66, 67, 68, 69, 70, 71, 72, 73, 74, 75, 76, 77, 78, 79, 80, 81, 82, 83, 84, 85, 86, 87, 88, 89, 90, 91, 92, 93, 94, 95, 96, 97, 98, 99, 100, 101, 102] rfl (by decide +kernel)
set_option maxRecDepth 20000 in
theorem gX6_doingOf_X6_rightOf : GoodIn wsX6_doingOf (wsV RX6 248 RX6 yX6_rightOf wsX6_rightOf) := goodIn_app (goodIn_of _ (by decide +kernel)) ggX6_doingOf_X6_rightOf
set_option maxRecDepth 20000 in
theorem ggX6_doingOf_X6_worthOf : GoodIn wsX6_doingOf wsX6_worthOf := goodIn_r _ [24, 3, 25, 26, 27, 14, 28, 48, 49, 50, 51, 52, 53, 54, 55, 56, 57, 58, 59, 60, 61, 62, 63, 64, 65, 66, 67, 68, 69, 70, 71, 72, 73, 74, 75, 76, 77, 78, 79, 80, 81, 82, 83, 84, 85, 86, 87, 88, 89, 90, 91, 92, 93, 94, 95, 96, 97, 98, 99, 100, 101, 102] rfl (by decide +kernel)
set_option maxRecDepth 20000 in
theorem gX6_doingOf_X6_worthOf : GoodIn wsX6_doingOf (wsV RX6 141 RX6 yX6_worthOf wsX6_worthOf) := goodIn_app (goodIn_of _ (by decide +kernel)) ggX6_doingOf_X6_worthOf
set_option maxRecDepth 20000 in
theorem ggX6_doingOf_X6_doingBy : GoodIn wsX6_doingOf wsX6_doingBy := goodIn_r _ [32, 33, 34, 35, 36, 37, 38, 39, 14, 40, 41, 42, 43, 2, 44, 45, 46, 47, 48, 49, 50, 51, 52, 53, 54, 55, 56, 57, 58, 59, 60, 61, 62, 63, 64, 65, 66, 67, 68, 69, 70, 71, 72, 73, 74, 75, 76, 77, 78, 79, 80, 81, 82, 83, 84, 85, 86, 87, 88, 89, 90, 91, 92, 93, 94, 95, 96, 97, 98, 99, 100, 101, 102] rfl (by decide +kernel)
set_option maxRecDepth 20000 in
theorem gX6_doingOf_X6_doingBy : GoodIn wsX6_doingOf (wsV RX6 254 RX6 yX6_doingBy wsX6_doingBy) := goodIn_app (goodIn_of _ (by decide +kernel)) ggX6_doingOf_X6_doingBy
theorem dX6_doingOf_0 : decode cX6_doingOf 0 = .ok (.aload_n 0, 1) := by decide +kernel
theorem dX6_doingOf_1 : decode cX6_doingOf 1 = .ok (.getfield 13, 3) := by decide +kernel
theorem dX6_doingOf_4 : decode cX6_doingOf 4 = .ok (.iload_n 1, 1) := by decide +kernel
theorem dX6_doingOf_5 : decode cX6_doingOf 5 = .ok (.iaload, 1) := by decide +kernel
theorem dX6_doingOf_6 : decode cX6_doingOf 6 = .ok (.istore_n 2, 1) := by decide +kernel
theorem dX6_doingOf_7 : decode cX6_doingOf 7 = .ok (.iload_n 2, 1) := by decide +kernel
theorem dX6_doingOf_8 : decode cX6_doingOf 8 = .ok (.ifCond .ne 5, 3) := by decide +kernel
theorem dX6_doingOf_11 : decode cX6_doingOf 11 = .ok (.iconst 0, 1) := by decide +kernel
theorem dX6_doingOf_12 : decode cX6_doingOf 12 = .ok (.ireturn, 1) := by decide +kernel
theorem dX6_doingOf_13 : decode cX6_doingOf 13 = .ok (.aload_n 0, 1) := by decide +kernel
theorem dX6_doingOf_14 : decode cX6_doingOf 14 = .ok (.iload_n 1, 1) := by decide +kernel
theorem dX6_doingOf_15 : decode cX6_doingOf 15 = .ok (.invokevirtual 245, 3) := by decide +kernel
theorem dX6_doingOf_18 : decode cX6_doingOf 18 = .ok (.istore_n 3, 1) := by decide +kernel
theorem dX6_doingOf_19 : decode cX6_doingOf 19 = .ok (.aload_n 0, 1) := by decide +kernel
theorem dX6_doingOf_20 : decode cX6_doingOf 20 = .ok (.iload_n 1, 1) := by decide +kernel
theorem dX6_doingOf_21 : decode cX6_doingOf 21 = .ok (.invokevirtual 248, 3) := by decide +kernel
theorem dX6_doingOf_24 : decode cX6_doingOf 24 = .ok (.istore 4, 2) := by decide +kernel
theorem dX6_doingOf_26 : decode cX6_doingOf 26 = .ok (.aload_n 0, 1) := by decide +kernel
theorem dX6_doingOf_27 : decode cX6_doingOf 27 = .ok (.getfield 86, 3) := by decide +kernel
theorem dX6_doingOf_30 : decode cX6_doingOf 30 = .ok (.iconst 0, 1) := by decide +kernel
theorem dX6_doingOf_31 : decode cX6_doingOf 31 = .ok (.iload_n 2, 1) := by decide +kernel
theorem dX6_doingOf_32 : decode cX6_doingOf 32 = .ok (.iastore, 1) := by decide +kernel
theorem dX6_doingOf_33 : decode cX6_doingOf 33 = .ok (.aload_n 0, 1) := by decide +kernel
theorem dX6_doingOf_34 : decode cX6_doingOf 34 = .ok (.getfield 86, 3) := by decide +kernel
theorem dX6_doingOf_37 : decode cX6_doingOf 37 = .ok (.iconst 1, 1) := by decide +kernel
theorem dX6_doingOf_38 : decode cX6_doingOf 38 = .ok (.aload_n 0, 1) := by decide +kernel
theorem dX6_doingOf_39 : decode cX6_doingOf 39 = .ok (.getfield 13, 3) := by decide +kernel
theorem dX6_doingOf_42 : decode cX6_doingOf 42 = .ok (.iload_n 3, 1) := by decide +kernel
theorem dX6_doingOf_43 : decode cX6_doingOf 43 = .ok (.iaload, 1) := by decide +kernel
theorem dX6_doingOf_44 : decode cX6_doingOf 44 = .ok (.iastore, 1) := by decide +kernel
theorem dX6_doingOf_45 : decode cX6_doingOf 45 = .ok (.aload_n 0, 1) := by decide +kernel
theorem dX6_doingOf_46 : decode cX6_doingOf 46 = .ok (.getfield 86, 3) := by decide +kernel
theorem dX6_doingOf_49 : decode cX6_doingOf 49 = .ok (.iconst 2, 1) := by decide +kernel
theorem dX6_doingOf_50 : decode cX6_doingOf 50 = .ok (.aload_n 0, 1) := by decide +kernel
theorem dX6_doingOf_51 : decode cX6_doingOf 51 = .ok (.getfield 13, 3) := by decide +kernel
theorem dX6_doingOf_54 : decode cX6_doingOf 54 = .ok (.iload 4, 2) := by decide +kernel
theorem dX6_doingOf_56 : decode cX6_doingOf 56 = .ok (.iaload, 1) := by decide +kernel
theorem dX6_doingOf_57 : decode cX6_doingOf 57 = .ok (.iastore, 1) := by decide +kernel
theorem dX6_doingOf_58 : decode cX6_doingOf 58 = .ok (.aload_n 0, 1) := by decide +kernel
theorem dX6_doingOf_59 : decode cX6_doingOf 59 = .ok (.getfield 86, 3) := by decide +kernel
theorem dX6_doingOf_62 : decode cX6_doingOf 62 = .ok (.iconst 3, 1) := by decide +kernel
theorem dX6_doingOf_63 : decode cX6_doingOf 63 = .ok (.aload_n 0, 1) := by decide +kernel
theorem dX6_doingOf_64 : decode cX6_doingOf 64 = .ok (.iload_n 2, 1) := by decide +kernel
theorem dX6_doingOf_65 : decode cX6_doingOf 65 = .ok (.aload_n 0, 1) := by decide +kernel
theorem dX6_doingOf_66 : decode cX6_doingOf 66 = .ok (.getfield 53, 3) := by decide +kernel
theorem dX6_doingOf_69 : decode cX6_doingOf 69 = .ok (.bipush 9, 2) := by decide +kernel
theorem dX6_doingOf_71 : decode cX6_doingOf 71 = .ok (.iaload, 1) := by decide +kernel
theorem dX6_doingOf_72 : decode cX6_doingOf 72 = .ok (.iadd, 1) := by decide +kernel
theorem dX6_doingOf_73 : decode cX6_doingOf 73 = .ok (.invokevirtual 141, 3) := by decide +kernel
theorem dX6_doingOf_76 : decode cX6_doingOf 76 = .ok (.aload_n 0, 1) := by decide +kernel
theorem dX6_doingOf_77 : decode cX6_doingOf 77 = .ok (.iload_n 2, 1) := by decide +kernel
theorem dX6_doingOf_78 : decode cX6_doingOf 78 = .ok (.invokevirtual 141, 3) := by decide +kernel
theorem dX6_doingOf_81 : decode cX6_doingOf 81 = .ok (.isub, 1) := by decide +kernel
theorem dX6_doingOf_82 : decode cX6_doingOf 82 = .ok (.iastore, 1) := by decide +kernel
theorem dX6_doingOf_83 : decode cX6_doingOf 83 = .ok (.aload_n 0, 1) := by decide +kernel
theorem dX6_doingOf_84 : decode cX6_doingOf 84 = .ok (.getfield 86, 3) := by decide +kernel
theorem dX6_doingOf_87 : decode cX6_doingOf 87 = .ok (.iconst 4, 1) := by decide +kernel
theorem dX6_doingOf_88 : decode cX6_doingOf 88 = .ok (.aload_n 0, 1) := by decide +kernel
theorem dX6_doingOf_89 : decode cX6_doingOf 89 = .ok (.iload_n 2, 1) := by decide +kernel
theorem dX6_doingOf_90 : decode cX6_doingOf 90 = .ok (.invokevirtual 141, 3) := by decide +kernel
theorem dX6_doingOf_93 : decode cX6_doingOf 93 = .ok (.aload_n 0, 1) := by decide +kernel
theorem dX6_doingOf_94 : decode cX6_doingOf 94 = .ok (.iload_n 2, 1) := by decide +kernel
theorem dX6_doingOf_95 : decode cX6_doingOf 95 = .ok (.aload_n 0, 1) := by decide +kernel
theorem dX6_doingOf_96 : decode cX6_doingOf 96 = .ok (.getfield 53, 3) := by decide +kernel
theorem dX6_doingOf_99 : decode cX6_doingOf 99 = .ok (.bipush 9, 2) := by decide +kernel
theorem dX6_doingOf_101 : decode cX6_doingOf 101 = .ok (.iaload, 1) := by decide +kernel
theorem dX6_doingOf_102 : decode cX6_doingOf 102 = .ok (.if_icmp .le 15, 3) := by decide +kernel
theorem dX6_doingOf_105 : decode cX6_doingOf 105 = .ok (.iload_n 2, 1) := by decide +kernel
theorem dX6_doingOf_106 : decode cX6_doingOf 106 = .ok (.aload_n 0, 1) := by decide +kernel
theorem dX6_doingOf_107 : decode cX6_doingOf 107 = .ok (.getfield 53, 3) := by decide +kernel
theorem dX6_doingOf_110 : decode cX6_doingOf 110 = .ok (.bipush 9, 2) := by decide +kernel
theorem dX6_doingOf_112 : decode cX6_doingOf 112 = .ok (.iaload, 1) := by decide +kernel
theorem dX6_doingOf_113 : decode cX6_doingOf 113 = .ok (.isub, 1) := by decide +kernel
theorem dX6_doingOf_114 : decode cX6_doingOf 114 = .ok (.goto 4, 3) := by decide +kernel
theorem dX6_doingOf_117 : decode cX6_doingOf 117 = .ok (.iconst 0, 1) := by decide +kernel
theorem dX6_doingOf_118 : decode cX6_doingOf 118 = .ok (.invokevirtual 141, 3) := by decide +kernel
theorem dX6_doingOf_121 : decode cX6_doingOf 121 = .ok (.isub, 1) := by decide +kernel
theorem dX6_doingOf_122 : decode cX6_doingOf 122 = .ok (.iastore, 1) := by decide +kernel
theorem dX6_doingOf_123 : decode cX6_doingOf 123 = .ok (.aload_n 0, 1) := by decide +kernel
theorem dX6_doingOf_124 : decode cX6_doingOf 124 = .ok (.getfield 86, 3) := by decide +kernel
theorem dX6_doingOf_127 : decode cX6_doingOf 127 = .ok (.iconst 5, 1) := by decide +kernel
theorem dX6_doingOf_128 : decode cX6_doingOf 128 = .ok (.aload_n 0, 1) := by decide +kernel
theorem dX6_doingOf_129 : decode cX6_doingOf 129 = .ok (.getfield 251, 3) := by decide +kernel
theorem dX6_doingOf_132 : decode cX6_doingOf 132 = .ok (.iastore, 1) := by decide +kernel
theorem dX6_doingOf_133 : decode cX6_doingOf 133 = .ok (.aload_n 0, 1) := by decide +kernel
theorem dX6_doingOf_134 : decode cX6_doingOf 134 = .ok (.getfield 86, 3) := by decide +kernel
theorem dX6_doingOf_137 : decode cX6_doingOf 137 = .ok (.bipush 6, 2) := by decide +kernel
theorem dX6_doingOf_139 : decode cX6_doingOf 139 = .ok (.aload_n 0, 1) := by decide +kernel
theorem dX6_doingOf_140 : decode cX6_doingOf 140 = .ok (.getfield 29, 3) := by decide +kernel
theorem dX6_doingOf_143 : decode cX6_doingOf 143 = .ok (.iload_n 1, 1) := by decide +kernel
theorem dX6_doingOf_144 : decode cX6_doingOf 144 = .ok (.iaload, 1) := by decide +kernel
theorem dX6_doingOf_145 : decode cX6_doingOf 145 = .ok (.iastore, 1) := by decide +kernel
theorem dX6_doingOf_146 : decode cX6_doingOf 146 = .ok (.aload_n 0, 1) := by decide +kernel
theorem dX6_doingOf_147 : decode cX6_doingOf 147 = .ok (.getfield 86, 3) := by decide +kernel
theorem dX6_doingOf_150 : decode cX6_doingOf 150 = .ok (.bipush 7, 2) := by decide +kernel
theorem dX6_doingOf_152 : decode cX6_doingOf 152 = .ok (.aload_n 0, 1) := by decide +kernel
theorem dX6_doingOf_153 : decode cX6_doingOf 153 = .ok (.getfield 23, 3) := by decide +kernel
theorem dX6_doingOf_156 : decode cX6_doingOf 156 = .ok (.iload_n 1, 1) := by decide +kernel
theorem dX6_doingOf_157 : decode cX6_doingOf 157 = .ok (.iaload, 1) := by decide +kernel
theorem dX6_doingOf_158 : decode cX6_doingOf 158 = .ok (.iastore, 1) := by decide +kernel
theorem dX6_doingOf_159 : decode cX6_doingOf 159 = .ok (.aload_n 0, 1) := by decide +kernel
theorem dX6_doingOf_160 : decode cX6_doingOf 160 = .ok (.getfield 86, 3) := by decide +kernel
theorem dX6_doingOf_163 : decode cX6_doingOf 163 = .ok (.bipush 8, 2) := by decide +kernel
theorem dX6_doingOf_165 : decode cX6_doingOf 165 = .ok (.aload_n 0, 1) := by decide +kernel
theorem dX6_doingOf_166 : decode cX6_doingOf 166 = .ok (.getfield 23, 3) := by decide +kernel
theorem dX6_doingOf_169 : decode cX6_doingOf 169 = .ok (.iload_n 3, 1) := by decide +kernel
theorem dX6_doingOf_170 : decode cX6_doingOf 170 = .ok (.iaload, 1) := by decide +kernel
theorem dX6_doingOf_171 : decode cX6_doingOf 171 = .ok (.iastore, 1) := by decide +kernel
theorem dX6_doingOf_172 : decode cX6_doingOf 172 = .ok (.aload_n 0, 1) := by decide +kernel
theorem dX6_doingOf_173 : decode cX6_doingOf 173 = .ok (.getfield 86, 3) := by decide +kernel
theorem dX6_doingOf_176 : decode cX6_doingOf 176 = .ok (.bipush 9, 2) := by decide +kernel
theorem dX6_doingOf_178 : decode cX6_doingOf 178 = .ok (.aload_n 0, 1) := by decide +kernel
theorem dX6_doingOf_179 : decode cX6_doingOf 179 = .ok (.getfield 23, 3) := by decide +kernel
theorem dX6_doingOf_182 : decode cX6_doingOf 182 = .ok (.iload 4, 2) := by decide +kernel
theorem dX6_doingOf_184 : decode cX6_doingOf 184 = .ok (.iaload, 1) := by decide +kernel
theorem dX6_doingOf_185 : decode cX6_doingOf 185 = .ok (.iastore, 1) := by decide +kernel
theorem dX6_doingOf_186 : decode cX6_doingOf 186 = .ok (.aload_n 0, 1) := by decide +kernel
theorem dX6_doingOf_187 : decode cX6_doingOf 187 = .ok (.getfield 86, 3) := by decide +kernel
theorem dX6_doingOf_190 : decode cX6_doingOf 190 = .ok (.bipush 10, 2) := by decide +kernel
theorem dX6_doingOf_192 : decode cX6_doingOf 192 = .ok (.aload_n 0, 1) := by decide +kernel
theorem dX6_doingOf_193 : decode cX6_doingOf 193 = .ok (.getfield 20, 3) := by decide +kernel
theorem dX6_doingOf_196 : decode cX6_doingOf 196 = .ok (.iload_n 3, 1) := by decide +kernel
theorem dX6_doingOf_197 : decode cX6_doingOf 197 = .ok (.iaload, 1) := by decide +kernel
theorem dX6_doingOf_198 : decode cX6_doingOf 198 = .ok (.aload_n 0, 1) := by decide +kernel
theorem dX6_doingOf_199 : decode cX6_doingOf 199 = .ok (.getfield 20, 3) := by decide +kernel
theorem dX6_doingOf_202 : decode cX6_doingOf 202 = .ok (.iload_n 1, 1) := by decide +kernel
theorem dX6_doingOf_203 : decode cX6_doingOf 203 = .ok (.iaload, 1) := by decide +kernel
theorem dX6_doingOf_204 : decode cX6_doingOf 204 = .ok (.if_icmp .ne 7, 3) := by decide +kernel
theorem dX6_doingOf_207 : decode cX6_doingOf 207 = .ok (.iconst 1, 1) := by decide +kernel
theorem dX6_doingOf_208 : decode cX6_doingOf 208 = .ok (.goto 4, 3) := by decide +kernel
theorem dX6_doingOf_211 : decode cX6_doingOf 211 = .ok (.iconst 0, 1) := by decide +kernel
theorem dX6_doingOf_212 : decode cX6_doingOf 212 = .ok (.iastore, 1) := by decide +kernel
theorem dX6_doingOf_213 : decode cX6_doingOf 213 = .ok (.aload_n 0, 1) := by decide +kernel
theorem dX6_doingOf_214 : decode cX6_doingOf 214 = .ok (.getfield 86, 3) := by decide +kernel
theorem dX6_doingOf_217 : decode cX6_doingOf 217 = .ok (.bipush 11, 2) := by decide +kernel
theorem dX6_doingOf_219 : decode cX6_doingOf 219 = .ok (.aload_n 0, 1) := by decide +kernel
theorem dX6_doingOf_220 : decode cX6_doingOf 220 = .ok (.getfield 20, 3) := by decide +kernel
theorem dX6_doingOf_223 : decode cX6_doingOf 223 = .ok (.iload 4, 2) := by decide +kernel
theorem dX6_doingOf_225 : decode cX6_doingOf 225 = .ok (.iaload, 1) := by decide +kernel
theorem dX6_doingOf_226 : decode cX6_doingOf 226 = .ok (.aload_n 0, 1) := by decide +kernel
theorem dX6_doingOf_227 : decode cX6_doingOf 227 = .ok (.getfield 20, 3) := by decide +kernel
theorem dX6_doingOf_230 : decode cX6_doingOf 230 = .ok (.iload_n 1, 1) := by decide +kernel
theorem dX6_doingOf_231 : decode cX6_doingOf 231 = .ok (.iaload, 1) := by decide +kernel
theorem dX6_doingOf_232 : decode cX6_doingOf 232 = .ok (.if_icmp .ne 7, 3) := by decide +kernel
theorem dX6_doingOf_235 : decode cX6_doingOf 235 = .ok (.iconst 1, 1) := by decide +kernel
theorem dX6_doingOf_236 : decode cX6_doingOf 236 = .ok (.goto 4, 3) := by decide +kernel
theorem dX6_doingOf_239 : decode cX6_doingOf 239 = .ok (.iconst 0, 1) := by decide +kernel
theorem dX6_doingOf_240 : decode cX6_doingOf 240 = .ok (.iastore, 1) := by decide +kernel
theorem dX6_doingOf_241 : decode cX6_doingOf 241 = .ok (.aload_n 0, 1) := by decide +kernel
theorem dX6_doingOf_242 : decode cX6_doingOf 242 = .ok (.getfield 86, 3) := by decide +kernel
theorem dX6_doingOf_245 : decode cX6_doingOf 245 = .ok (.bipush 12, 2) := by decide +kernel
theorem dX6_doingOf_247 : decode cX6_doingOf 247 = .ok (.aload_n 0, 1) := by decide +kernel
theorem dX6_doingOf_248 : decode cX6_doingOf 248 = .ok (.getfield 38, 3) := by decide +kernel
theorem dX6_doingOf_251 : decode cX6_doingOf 251 = .ok (.iload_n 3, 1) := by decide +kernel
theorem dX6_doingOf_252 : decode cX6_doingOf 252 = .ok (.iaload, 1) := by decide +kernel
theorem dX6_doingOf_253 : decode cX6_doingOf 253 = .ok (.iastore, 1) := by decide +kernel
theorem dX6_doingOf_254 : decode cX6_doingOf 254 = .ok (.aload_n 0, 1) := by decide +kernel
theorem dX6_doingOf_255 : decode cX6_doingOf 255 = .ok (.getfield 86, 3) := by decide +kernel
theorem dX6_doingOf_258 : decode cX6_doingOf 258 = .ok (.bipush 13, 2) := by decide +kernel
theorem dX6_doingOf_260 : decode cX6_doingOf 260 = .ok (.aload_n 0, 1) := by decide +kernel
theorem dX6_doingOf_261 : decode cX6_doingOf 261 = .ok (.getfield 38, 3) := by decide +kernel
theorem dX6_doingOf_264 : decode cX6_doingOf 264 = .ok (.iload_n 1, 1) := by decide +kernel
theorem dX6_doingOf_265 : decode cX6_doingOf 265 = .ok (.iaload, 1) := by decide +kernel
theorem dX6_doingOf_266 : decode cX6_doingOf 266 = .ok (.iastore, 1) := by decide +kernel
theorem dX6_doingOf_267 : decode cX6_doingOf 267 = .ok (.aload_n 0, 1) := by decide +kernel
theorem dX6_doingOf_268 : decode cX6_doingOf 268 = .ok (.getfield 86, 3) := by decide +kernel
theorem dX6_doingOf_271 : decode cX6_doingOf 271 = .ok (.bipush 14, 2) := by decide +kernel
theorem dX6_doingOf_273 : decode cX6_doingOf 273 = .ok (.aload_n 0, 1) := by decide +kernel
theorem dX6_doingOf_274 : decode cX6_doingOf 274 = .ok (.getfield 26, 3) := by decide +kernel
theorem dX6_doingOf_277 : decode cX6_doingOf 277 = .ok (.iload_n 1, 1) := by decide +kernel
theorem dX6_doingOf_278 : decode cX6_doingOf 278 = .ok (.iaload, 1) := by decide +kernel
theorem dX6_doingOf_279 : decode cX6_doingOf 279 = .ok (.iastore, 1) := by decide +kernel
theorem dX6_doingOf_280 : decode cX6_doingOf 280 = .ok (.aload_n 0, 1) := by decide +kernel
theorem dX6_doingOf_281 : decode cX6_doingOf 281 = .ok (.aload_n 0, 1) := by decide +kernel
theorem dX6_doingOf_282 : decode cX6_doingOf 282 = .ok (.getfield 17, 3) := by decide +kernel
theorem dX6_doingOf_285 : decode cX6_doingOf 285 = .ok (.iload_n 1, 1) := by decide +kernel
theorem dX6_doingOf_286 : decode cX6_doingOf 286 = .ok (.iaload, 1) := by decide +kernel
theorem dX6_doingOf_287 : decode cX6_doingOf 287 = .ok (.invokevirtual 254, 3) := by decide +kernel
theorem dX6_doingOf_290 : decode cX6_doingOf 290 = .ok (.ireturn, 1) := by decide +kernel
set_option maxRecDepth 20000 in
theorem ggX6_isStopped_X6_draw : GoodIn wsX6_isStopped wsX6_draw := goodIn_r _ [8, 9, 10, 11, 12, 13, 14, 15, 16, 17, 18, 19, 20, 21, 22, 23, 24, 25, 26, 27, 28, 29, 30, 31, 32, 33, 34, 35, 36, 37, 38, 39, 40, 41, 42, 43, 44, 45, 46, 47, 48, 49, 50, 51, 52, 53, 54, 55, 56, 57, 58, 59, 60, 61, 62, 63, 64, 65, 66] rfl (by decide +kernel)
set_option maxRecDepth 20000 in
theorem gX6_isStopped_X6_draw : GoodIn wsX6_isStopped (wsV RX6 257 RX6 yX6_draw wsX6_draw) := goodIn_app (goodIn_of _ (by decide +kernel)) ggX6_isStopped_X6_draw
theorem dX6_isStopped_0 : decode cX6_isStopped 0 = .ok (.aload_n 0, 1) := by decide +kernel
theorem dX6_isStopped_1 : decode cX6_isStopped 1 = .ok (.getfield 92, 3) := by decide +kernel
theorem dX6_isStopped_4 : decode cX6_isStopped 4 = .ok (.iload_n 1, 1) := by decide +kernel
theorem dX6_isStopped_5 : decode cX6_isStopped 5 = .ok (.iaload, 1) := by decide +kernel
theorem dX6_isStopped_6 : decode cX6_isStopped 6 = .ok (.iconst 1, 1) := by decide +kernel
theorem dX6_isStopped_7 : decode cX6_isStopped 7 = .ok (.if_icmp .ne 26, 3) := by decide +kernel
theorem dX6_isStopped_10 : decode cX6_isStopped 10 = .ok (.aload_n 0, 1) := by decide +kernel
theorem dX6_isStopped_11 : decode cX6_isStopped 11 = .ok (.sipush 1000, 3) := by decide +kernel
theorem dX6_isStopped_14 : decode cX6_isStopped 14 = .ok (.invokevirtual 257, 3) := by decide +kernel
theorem dX6_isStopped_17 : decode cX6_isStopped 17 = .ok (.aload_n 0, 1) := by decide +kernel
theorem dX6_isStopped_18 : decode cX6_isStopped 18 = .ok (.getfield 53, 3) := by decide +kernel
theorem dX6_isStopped_21 : decode cX6_isStopped 21 = .ok (.bipush 7, 2) := by decide +kernel
theorem dX6_isStopped_23 : decode cX6_isStopped 23 = .ok (.iaload, 1) := by decide +kernel
theorem dX6_isStopped_24 : decode cX6_isStopped 24 = .ok (.if_icmp .ge 7, 3) := by decide +kernel
theorem dX6_isStopped_27 : decode cX6_isStopped 27 = .ok (.iconst 1, 1) := by decide +kernel
theorem dX6_isStopped_28 : decode cX6_isStopped 28 = .ok (.goto 4, 3) := by decide +kernel
theorem dX6_isStopped_31 : decode cX6_isStopped 31 = .ok (.iconst 0, 1) := by decide +kernel
theorem dX6_isStopped_32 : decode cX6_isStopped 32 = .ok (.ireturn, 1) := by decide +kernel
theorem dX6_isStopped_33 : decode cX6_isStopped 33 = .ok (.aload_n 0, 1) := by decide +kernel
theorem dX6_isStopped_34 : decode cX6_isStopped 34 = .ok (.getfield 23, 3) := by decide +kernel
theorem dX6_isStopped_37 : decode cX6_isStopped 37 = .ok (.iload_n 1, 1) := by decide +kernel
theorem dX6_isStopped_38 : decode cX6_isStopped 38 = .ok (.iaload, 1) := by decide +kernel
theorem dX6_isStopped_39 : decode cX6_isStopped 39 = .ok (.iconst 1, 1) := by decide +kernel
theorem dX6_isStopped_40 : decode cX6_isStopped 40 = .ok (.if_icmp .ne 24, 3) := by decide +kernel
theorem dX6_isStopped_43 : decode cX6_isStopped 43 = .ok (.aload_n 0, 1) := by decide +kernel
theorem dX6_isStopped_44 : decode cX6_isStopped 44 = .ok (.sipush 1000, 3) := by decide +kernel
theorem dX6_isStopped_47 : decode cX6_isStopped 47 = .ok (.invokevirtual 257, 3) := by decide +kernel
theorem dX6_isStopped_50 : decode cX6_isStopped 50 = .ok (.aload_n 0, 1) := by decide +kernel
theorem dX6_isStopped_51 : decode cX6_isStopped 51 = .ok (.getfield 53, 3) := by decide +kernel
theorem dX6_isStopped_54 : decode cX6_isStopped 54 = .ok (.bipush 8, 2) := by decide +kernel
theorem dX6_isStopped_56 : decode cX6_isStopped 56 = .ok (.iaload, 1) := by decide +kernel
theorem dX6_isStopped_57 : decode cX6_isStopped 57 = .ok (.if_icmp .ge 7, 3) := by decide +kernel
theorem dX6_isStopped_60 : decode cX6_isStopped 60 = .ok (.iconst 1, 1) := by decide +kernel
theorem dX6_isStopped_61 : decode cX6_isStopped 61 = .ok (.goto 4, 3) := by decide +kernel
