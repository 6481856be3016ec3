theorem dX9_init_0 : decode cX9_init 0 = .ok (.aload_n 0, 1) := by decide +kernel
theorem dX9_init_1 : decode cX9_init 1 = .ok (.invokespecial 1, 3) := by decide +kernel
theorem dX9_init_4 : decode cX9_init 4 = .ok (.aload_n 0, 1) := by decide +kernel
theorem dX9_init_5 : decode cX9_init 5 = .ok (.iconst 4, 1) := by decide +kernel
theorem dX9_init_6 : decode cX9_init 6 = .ok (.newarray .int, 2) := by decide +kernel
theorem dX9_init_8 : decode cX9_init 8 = .ok (.dup, 1) := by decide +kernel
theorem dX9_init_9 : decode cX9_init 9 = .ok (.iconst 0, 1) := by decide +kernel
theorem dX9_init_10 : decode cX9_init 10 = .ok (.bipush 50, 2) := by decide +kernel
theorem dX9_init_12 : decode cX9_init 12 = .ok (.iastore, 1) := by decide +kernel
theorem dX9_init_13 : decode cX9_init 13 = .ok (.dup, 1) := by decide +kernel
theorem dX9_init_14 : decode cX9_init 14 = .ok (.iconst 1, 1) := by decide +kernel
theorem dX9_init_15 : decode cX9_init 15 = .ok (.bipush 50, 2) := by decide +kernel
theorem dX9_init_17 : decode cX9_init 17 = .ok (.iastore, 1) := by decide +kernel
theorem dX9_init_18 : decode cX9_init 18 = .ok (.dup, 1) := by decide +kernel
theorem dX9_init_19 : decode cX9_init 19 = .ok (.iconst 2, 1) := by decide +kernel
theorem dX9_init_20 : decode cX9_init 20 = .ok (.bipush 50, 2) := by decide +kernel
theorem dX9_init_22 : decode cX9_init 22 = .ok (.iastore, 1) := by decide +kernel
theorem dX9_init_23 : decode cX9_init 23 = .ok (.dup, 1) := by decide +kernel
theorem dX9_init_24 : decode cX9_init 24 = .ok (.iconst 3, 1) := by decide +kernel
theorem dX9_init_25 : decode cX9_init 25 = .ok (.bipush 50, 2) := by decide +kernel
theorem dX9_init_27 : decode cX9_init 27 = .ok (.iastore, 1) := by decide +kernel
theorem dX9_init_28 : decode cX9_init 28 = .ok (.putfield 7, 3) := by decide +kernel
theorem dX9_init_31 : decode cX9_init 31 = .ok (.aload_n 0, 1) := by decide +kernel
theorem dX9_init_32 : decode cX9_init 32 = .ok (.bipush 10, 2) := by decide +kernel
theorem dX9_init_34 : decode cX9_init 34 = .ok (.newarray .int, 2) := by decide +kernel
theorem dX9_init_36 : decode cX9_init 36 = .ok (.putfield 13, 3) := by decide +kernel
theorem dX9_init_39 : decode cX9_init 39 = .ok (.aload_n 0, 1) := by decide +kernel
theorem dX9_init_40 : decode cX9_init 40 = .ok (.bipush 10, 2) := by decide +kernel
theorem dX9_init_42 : decode cX9_init 42 = .ok (.newarray .int, 2) := by decide +kernel
theorem dX9_init_44 : decode cX9_init 44 = .ok (.putfield 16, 3) := by decide +kernel
theorem dX9_init_47 : decode cX9_init 47 = .ok (.aload_n 0, 1) := by decide +kernel
theorem dX9_init_48 : decode cX9_init 48 = .ok (.bipush 10, 2) := by decide +kernel
theorem dX9_init_50 : decode cX9_init 50 = .ok (.newarray .int, 2) := by decide +kernel
theorem dX9_init_52 : decode cX9_init 52 = .ok (.putfield 19, 3) := by decide +kernel
theorem dX9_init_55 : decode cX9_init 55 = .ok (.aload_n 0, 1) := by decide +kernel
theorem dX9_init_56 : decode cX9_init 56 = .ok (.bipush 99, 2) := by decide +kernel
theorem dX9_init_58 : decode cX9_init 58 = .ok (.newarray .int, 2) := by decide +kernel
theorem dX9_init_60 : decode cX9_init 60 = .ok (.putfield 22, 3) := by decide +kernel
theorem dX9_init_63 : decode cX9_init 63 = .ok (.aload_n 0, 1) := by decide +kernel
theorem dX9_init_64 : decode cX9_init 64 = .ok (.bipush 7, 2) := by decide +kernel
theorem dX9_init_66 : decode cX9_init 66 = .ok (.newarray .int, 2) := by decide +kernel
theorem dX9_init_68 : decode cX9_init 68 = .ok (.dup, 1) := by decide +kernel
theorem dX9_init_69 : decode cX9_init 69 = .ok (.iconst 0, 1) := by decide +kernel
theorem dX9_init_70 : decode cX9_init 70 = .ok (.iconst 2, 1) := by decide +kernel
theorem dX9_init_71 : decode cX9_init 71 = .ok (.iastore, 1) := by decide +kernel
theorem dX9_init_72 : decode cX9_init 72 = .ok (.dup, 1) := by decide +kernel
theorem dX9_init_73 : decode cX9_init 73 = .ok (.iconst 1, 1) := by decide +kernel
theorem dX9_init_74 : decode cX9_init 74 = .ok (.iconst 4, 1) := by decide +kernel
theorem dX9_init_75 : decode cX9_init 75 = .ok (.iastore, 1) := by decide +kernel
theorem dX9_init_76 : decode cX9_init 76 = .ok (.dup, 1) := by decide +kernel
theorem dX9_init_77 : decode cX9_init 77 = .ok (.iconst 2, 1) := by decide +kernel
theorem dX9_init_78 : decode cX9_init 78 = .ok (.iconst 1, 1) := by decide +kernel
theorem dX9_init_79 : decode cX9_init 79 = .ok (.iastore, 1) := by decide +kernel
theorem dX9_init_80 : decode cX9_init 80 = .ok (.dup, 1) := by decide +kernel
theorem dX9_init_81 : decode cX9_init 81 = .ok (.iconst 3, 1) := by decide +kernel
theorem dX9_init_82 : decode cX9_init 82 = .ok (.iconst 3, 1) := by decide +kernel
theorem dX9_init_83 : decode cX9_init 83 = .ok (.iastore, 1) := by decide +kernel
theorem dX9_init_84 : decode cX9_init 84 = .ok (.dup, 1) := by decide +kernel
theorem dX9_init_85 : decode cX9_init 85 = .ok (.iconst 4, 1) := by decide +kernel
theorem dX9_init_86 : decode cX9_init 86 = .ok (.iconst 3, 1) := by decide +kernel
theorem dX9_init_87 : decode cX9_init 87 = .ok (.iastore, 1) := by decide +kernel
theorem dX9_init_88 : decode cX9_init 88 = .ok (.dup, 1) := by decide +kernel
theorem dX9_init_89 : decode cX9_init 89 = .ok (.iconst 5, 1) := by decide +kernel
theorem dX9_init_90 : decode cX9_init 90 = .ok (.iconst 5, 1) := by decide +kernel
theorem dX9_init_91 : decode cX9_init 91 = .ok (.iastore, 1) := by decide +kernel
theorem dX9_init_92 : decode cX9_init 92 = .ok (.dup, 1) := by decide +kernel
theorem dX9_init_93 : decode cX9_init 93 = .ok (.bipush 6, 2) := by decide +kernel
theorem dX9_init_95 : decode cX9_init 95 = .ok (.iconst 2, 1) := by decide +kernel
theorem dX9_init_96 : decode cX9_init 96 = .ok (.iastore, 1) := by decide +kernel
theorem dX9_init_97 : decode cX9_init 97 = .ok (.putfield 25, 3) := by decide +kernel
theorem dX9_init_100 : decode cX9_init 100 = .ok (.aload_n 0, 1) := by decide +kernel
theorem dX9_init_101 : decode cX9_init 101 = .ok (.bipush 7, 2) := by decide +kernel
theorem dX9_init_103 : decode cX9_init 103 = .ok (.newarray .int, 2) := by decide +kernel
theorem dX9_init_105 : decode cX9_init 105 = .ok (.dup, 1) := by decide +kernel
theorem dX9_init_106 : decode cX9_init 106 = .ok (.iconst 0, 1) := by decide +kernel
theorem dX9_init_107 : decode cX9_init 107 = .ok (.bipush 9, 2) := by decide +kernel
theorem dX9_init_109 : decode cX9_init 109 = .ok (.iastore, 1) := by decide +kernel
theorem dX9_init_110 : decode cX9_init 110 = .ok (.dup, 1) := by decide +kernel
theorem dX9_init_111 : decode cX9_init 111 = .ok (.iconst 1, 1) := by decide +kernel
theorem dX9_init_112 : decode cX9_init 112 = .ok (.bipush 9, 2) := by decide +kernel
theorem dX9_init_114 : decode cX9_init 114 = .ok (.iastore, 1) := by decide +kernel
theorem dX9_init_115 : decode cX9_init 115 = .ok (.dup, 1) := by decide +kernel
theorem dX9_init_116 : decode cX9_init 116 = .ok (.iconst 2, 1) := by decide +kernel
theorem dX9_init_117 : decode cX9_init 117 = .ok (.bipush 9, 2) := by decide +kernel
theorem dX9_init_119 : decode cX9_init 119 = .ok (.iastore, 1) := by decide +kernel
theorem dX9_init_120 : decode cX9_init 120 = .ok (.dup, 1) := by decide +kernel
theorem dX9_init_121 : decode cX9_init 121 = .ok (.iconst 3, 1) := by decide +kernel
theorem dX9_init_122 : decode cX9_init 122 = .ok (.bipush 9, 2) := by decide +kernel
theorem dX9_init_124 : decode cX9_init 124 = .ok (.iastore, 1) := by decide +kernel
theorem dX9_init_125 : decode cX9_init 125 = .ok (.dup, 1) := by decide +kernel
theorem dX9_init_126 : decode cX9_init 126 = .ok (.iconst 4, 1) := by decide +kernel
theorem dX9_init_127 : decode cX9_init 127 = .ok (.bipush 20, 2) := by decide +kernel
theorem dX9_init_129 : decode cX9_init 129 = .ok (.iastore, 1) := by decide +kernel
theorem dX9_init_130 : decode cX9_init 130 = .ok (.dup, 1) := by decide +kernel
theorem dX9_init_131 : decode cX9_init 131 = .ok (.iconst 5, 1) := by decide +kernel
theorem dX9_init_132 : decode cX9_init 132 = .ok (.bipush 30, 2) := by decide +kernel
theorem dX9_init_134 : decode cX9_init 134 = .ok (.iastore, 1) := by decide +kernel
theorem dX9_init_135 : decode cX9_init 135 = .ok (.dup, 1) := by decide +kernel
theorem dX9_init_136 : decode cX9_init 136 = .ok (.bipush 6, 2) := by decide +kernel
theorem dX9_init_138 : decode cX9_init 138 = .ok (.bipush 20, 2) := by decide +kernel
theorem dX9_init_140 : decode cX9_init 140 = .ok (.iastore, 1) := by decide +kernel
theorem dX9_init_141 : decode cX9_init 141 = .ok (.putfield 28, 3) := by decide +kernel
theorem dX9_init_144 : decode cX9_init 144 = .ok (.aload_n 0, 1) := by decide +kernel
theorem dX9_init_145 : decode cX9_init 145 = .ok (.bipush 24, 2) := by decide +kernel
theorem dX9_init_147 : decode cX9_init 147 = .ok (.newarray .int, 2) := by decide +kernel
theorem dX9_init_149 : decode cX9_init 149 = .ok (.putfield 31, 3) := by decide +kernel
theorem dX9_init_152 : decode cX9_init 152 = .ok (.aload_n 0, 1) := by decide +kernel
theorem dX9_init_153 : decode cX9_init 153 = .ok (.sipush 200, 3) := by decide +kernel
theorem dX9_init_156 : decode cX9_init 156 = .ok (.newarray .int, 2) := by decide +kernel
theorem dX9_init_158 : decode cX9_init 158 = .ok (.putfield 34, 3) := by decide +kernel
theorem dX9_init_161 : decode cX9_init 161 = .ok (.aload_n 0, 1) := by decide +kernel
theorem dX9_init_162 : decode cX9_init 162 = .ok (.iconst 1, 1) := by decide +kernel
theorem dX9_init_163 : decode cX9_init 163 = .ok (.putfield 37, 3) := by decide +kernel
theorem dX9_init_166 : decode cX9_init 166 = .ok (.aload_n 0, 1) := by decide +kernel
theorem dX9_init_167 : decode cX9_init 167 = .ok (.sipush 200, 3) := by decide +kernel
theorem dX9_init_170 : decode cX9_init 170 = .ok (.newarray .int, 2) := by decide +kernel
theorem dX9_init_172 : decode cX9_init 172 = .ok (.putfield 41, 3) := by decide +kernel
theorem dX9_init_175 : decode cX9_init 175 = .ok (.aload_n 0, 1) := by decide +kernel
theorem dX9_init_176 : decode cX9_init 176 = .ok (.bipush 6, 2) := by decide +kernel
theorem dX9_init_178 : decode cX9_init 178 = .ok (.newarray .int, 2) := by decide +kernel
theorem dX9_init_180 : decode cX9_init 180 = .ok (.putfield 44, 3) := by decide +kernel
theorem dX9_init_183 : decode cX9_init 183 = .ok (.aload_n 0, 1) := by decide +kernel
theorem dX9_init_184 : decode cX9_init 184 = .ok (.sipush 200, 3) := by decide +kernel
theorem dX9_init_187 : decode cX9_init 187 = .ok (.newarray .int, 2) := by decide +kernel
theorem dX9_init_189 : decode cX9_init 189 = .ok (.putfield 47, 3) := by decide +kernel
theorem dX9_init_192 : decode cX9_init 192 = .ok (.aload_n 0, 1) := by decide +kernel
theorem dX9_init_193 : decode cX9_init 193 = .ok (.sipush 200, 3) := by decide +kernel
theorem dX9_init_196 : decode cX9_init 196 = .ok (.newarray .int, 2) := by decide +kernel
theorem dX9_init_198 : decode cX9_init 198 = .ok (.putfield 50, 3) := by decide +kernel
theorem dX9_init_201 : decode cX9_init 201 = .ok (.aload_n 0, 1) := by decide +kernel
theorem dX9_init_202 : decode cX9_init 202 = .ok (.bipush 100, 2) := by decide +kernel
theorem dX9_init_204 : decode cX9_init 204 = .ok (.newarray .boolean, 2) := by decide +kernel
theorem dX9_init_206 : decode cX9_init 206 = .ok (.putfield 53, 3) := by decide +kernel
theorem dX9_init_209 : decode cX9_init 209 = .ok (.aload_n 0, 1) := by decide +kernel
theorem dX9_init_210 : decode cX9_init 210 = .ok (.bipush 24, 2) := by decide +kernel
theorem dX9_init_212 : decode cX9_init 212 = .ok (.newarray .int, 2) := by decide +kernel
theorem dX9_init_214 : decode cX9_init 214 = .ok (.putfield 57, 3) := by decide +kernel
theorem dX9_init_217 : decode cX9_init 217 = .ok (.aload_n 0, 1) := by decide +kernel
theorem dX9_init_218 : decode cX9_init 218 = .ok (.bipush 81, 2) := by decide +kernel
theorem dX9_init_220 : decode cX9_init 220 = .ok (.newarray .int, 2) := by decide +kernel
theorem dX9_init_222 : decode cX9_init 222 = .ok (.putfield 60, 3) := by decide +kernel
theorem dX9_init_225 : decode cX9_init 225 = .ok (.aload_n 0, 1) := by decide +kernel
theorem dX9_init_226 : decode cX9_init 226 = .ok (.bipush 10, 2) := by decide +kernel
theorem dX9_init_228 : decode cX9_init 228 = .ok (.newarray .long, 2) := by decide +kernel
theorem dX9_init_230 : decode cX9_init 230 = .ok (.putfield 63, 3) := by decide +kernel
theorem dX9_init_233 : decode cX9_init 233 = .ok (.aload_n 0, 1) := by decide +kernel
theorem dX9_init_234 : decode cX9_init 234 = .ok (.bipush 9, 2) := by decide +kernel
theorem dX9_init_236 : decode cX9_init 236 = .ok (.newarray .int, 2) := by decide +kernel
theorem dX9_init_238 : decode cX9_init 238 = .ok (.putfield 67, 3) := by decide +kernel
theorem dX9_init_241 : decode cX9_init 241 = .ok (.aload_n 0, 1) := by decide +kernel
theorem dX9_init_242 : decode cX9_init 242 = .ok (.bipush 9, 2) := by decide +kernel
theorem dX9_init_244 : decode cX9_init 244 = .ok (.newarray .int, 2) := by decide +kernel
theorem dX9_init_246 : decode cX9_init 246 = .ok (.putfield 70, 3) := by decide +kernel
theorem dX9_init_249 : decode cX9_init 249 = .ok (.aload_n 0, 1) := by decide +kernel
theorem dX9_init_250 : decode cX9_init 250 = .ok (.bipush 108, 2) := by decide +kernel
theorem dX9_init_252 : decode cX9_init 252 = .ok (.newarray .int, 2) := by decide +kernel
theorem dX9_init_254 : decode cX9_init 254 = .ok (.putfield 73, 3) := by decide +kernel
theorem dX9_init_257 : decode cX9_init 257 = .ok (.aload_n 0, 1) := by decide +kernel
theorem dX9_init_258 : decode cX9_init 258 = .ok (.bipush 108, 2) := by decide +kernel
theorem dX9_init_260 : decode cX9_init 260 = .ok (.newarray .int, 2) := by decide +kernel
theorem dX9_init_262 : decode cX9_init 262 = .ok (.putfield 76, 3) := by decide +kernel
theorem dX9_init_265 : decode cX9_init 265 = .ok (.aload_n 0, 1) := by decide +kernel
theorem dX9_init_266 : decode cX9_init 266 = .ok (.iconst 4, 1) := by decide +kernel
theorem dX9_init_267 : decode cX9_init 267 = .ok (.newarray .int, 2) := by decide +kernel
theorem dX9_init_269 : decode cX9_init 269 = .ok (.dup, 1) := by decide +kernel
theorem dX9_init_270 : decode cX9_init 270 = .ok (.iconst 0, 1) := by decide +kernel
theorem dX9_init_271 : decode cX9_init 271 = .ok (.iconst (-1), 1) := by decide +kernel
theorem dX9_init_272 : decode cX9_init 272 = .ok (.iastore, 1) := by decide +kernel
theorem dX9_init_273 : decode cX9_init 273 = .ok (.dup, 1) := by decide +kernel
theorem dX9_init_274 : decode cX9_init 274 = .ok (.iconst 1, 1) := by decide +kernel
theorem dX9_init_275 : decode cX9_init 275 = .ok (.iconst (-1), 1) := by decide +kernel
theorem dX9_init_276 : decode cX9_init 276 = .ok (.iastore, 1) := by decide +kernel
theorem dX9_init_277 : decode cX9_init 277 = .ok (.dup, 1) := by decide +kernel
theorem dX9_init_278 : decode cX9_init 278 = .ok (.iconst 2, 1) := by decide +kernel
theorem dX9_init_279 : decode cX9_init 279 = .ok (.iconst (-1), 1) := by decide +kernel
theorem dX9_init_280 : decode cX9_init 280 = .ok (.iastore, 1) := by decide +kernel
theorem dX9_init_281 : decode cX9_init 281 = .ok (.dup, 1) := by decide +kernel
theorem dX9_init_282 : decode cX9_init 282 = .ok (.iconst 3, 1) := by decide +kernel
theorem dX9_init_283 : decode cX9_init 283 = .ok (.iconst (-1), 1) := by decide +kernel
theorem dX9_init_284 : decode cX9_init 284 = .ok (.iastore, 1) := by decide +kernel
theorem dX9_init_285 : decode cX9_init 285 = .ok (.putfield 79, 3) := by decide +kernel
theorem dX9_init_288 : decode cX9_init 288 = .ok (.aload_n 0, 1) := by decide +kernel
theorem dX9_init_289 : decode cX9_init 289 = .ok (.iconst 4, 1) := by decide +kernel
theorem dX9_init_290 : decode cX9_init 290 = .ok (.newarray .int, 2) := by decide +kernel
theorem dX9_init_292 : decode cX9_init 292 = .ok (.putfield 82, 3) := by decide +kernel
theorem dX9_init_295 : decode cX9_init 295 = .ok (.aload_n 0, 1) := by decide +kernel
theorem dX9_init_296 : decode cX9_init 296 = .ok (.sipush 160, 3) := by decide +kernel
theorem dX9_init_299 : decode cX9_init 299 = .ok (.newarray .long, 2) := by decide +kernel
theorem dX9_init_301 : decode cX9_init 301 = .ok (.putfield 85, 3) := by decide +kernel
theorem dX9_init_304 : decode cX9_init 304 = .ok (.aload_n 0, 1) := by decide +kernel
theorem dX9_init_305 : decode cX9_init 305 = .ok (.iconst 4, 1) := by decide +kernel
theorem dX9_init_306 : decode cX9_init 306 = .ok (.newarray .int, 2) := by decide +kernel
theorem dX9_init_308 : decode cX9_init 308 = .ok (.dup, 1) := by decide +kernel
theorem dX9_init_309 : decode cX9_init 309 = .ok (.iconst 0, 1) := by decide +kernel
theorem dX9_init_310 : decode cX9_init 310 = .ok (.iconst (-1), 1) := by decide +kernel
theorem dX9_init_311 : decode cX9_init 311 = .ok (.iastore, 1) := by decide +kernel
theorem dX9_init_312 : decode cX9_init 312 = .ok (.dup, 1) := by decide +kernel
theorem dX9_init_313 : decode cX9_init 313 = .ok (.iconst 1, 1) := by decide +kernel
theorem dX9_init_314 : decode cX9_init 314 = .ok (.iconst (-1), 1) := by decide +kernel
theorem dX9_init_315 : decode cX9_init 315 = .ok (.iastore, 1) := by decide +kernel
theorem dX9_init_316 : decode cX9_init 316 = .ok (.dup, 1) := by decide +kernel
theorem dX9_init_317 : decode cX9_init 317 = .ok (.iconst 2, 1) := by decide +kernel
theorem dX9_init_318 : decode cX9_init 318 = .ok (.iconst (-1), 1) := by decide +kernel
theorem dX9_init_319 : decode cX9_init 319 = .ok (.iastore, 1) := by decide +kernel
theorem dX9_init_320 : decode cX9_init 320 = .ok (.dup, 1) := by decide +kernel
theorem dX9_init_321 : decode cX9_init 321 = .ok (.iconst 3, 1) := by decide +kernel
theorem dX9_init_322 : decode cX9_init 322 = .ok (.iconst (-1), 1) := by decide +kernel
theorem dX9_init_323 : decode cX9_init 323 = .ok (.iastore, 1) := by decide +kernel
theorem dX9_init_324 : decode cX9_init 324 = .ok (.putfield 88, 3) := by decide +kernel
theorem dX9_init_327 : decode cX9_init 327 = .ok (.aload_n 0, 1) := by decide +kernel
theorem dX9_init_328 : decode cX9_init 328 = .ok (.iconst 4, 1) := by decide +kernel
theorem dX9_init_329 : decode cX9_init 329 = .ok (.newarray .int, 2) := by decide +kernel
theorem dX9_init_331 : decode cX9_init 331 = .ok (.putfield 91, 3) := by decide +kernel
theorem dX9_init_334 : decode cX9_init 334 = .ok (.aload_n 0, 1) := by decide +kernel
theorem dX9_init_335 : decode cX9_init 335 = .ok (.iconst 4, 1) := by decide +kernel
theorem dX9_init_336 : decode cX9_init 336 = .ok (.newarray .int, 2) := by decide +kernel
theorem dX9_init_338 : decode cX9_init 338 = .ok (.putfield 94, 3) := by decide +kernel
theorem dX9_init_341 : decode cX9_init 341 = .ok (.aload_n 0, 1) := by decide +kernel
theorem dX9_init_342 : decode cX9_init 342 = .ok (.bipush 30, 2) := by decide +kernel
theorem dX9_init_344 : decode cX9_init 344 = .ok (.newarray .int, 2) := by decide +kernel
theorem dX9_init_346 : decode cX9_init 346 = .ok (.putfield 97, 3) := by decide +kernel
theorem dX9_init_349 : decode cX9_init 349 = .ok (.aload_n 0, 1) := by decide +kernel
theorem dX9_init_350 : decode cX9_init 350 = .ok (.sipush 380, 3) := by decide +kernel
theorem dX9_init_353 : decode cX9_init 353 = .ok (.newarray .int, 2) := by decide +kernel
theorem dX9_init_355 : decode cX9_init 355 = .ok (.putfield 100, 3) := by decide +kernel
theorem dX9_init_358 : decode cX9_init 358 = .ok (.aload_n 0, 1) := by decide +kernel
theorem dX9_init_359 : decode cX9_init 359 = .ok (.iconst 4, 1) := by decide +kernel
theorem dX9_init_360 : decode cX9_init 360 = .ok (.newarray .int, 2) := by decide +kernel
theorem dX9_init_362 : decode cX9_init 362 = .ok (.putfield 103, 3) := by decide +kernel
theorem dX9_init_365 : decode cX9_init 365 = .ok (.return_, 1) := by decide +kernel
theorem dX9_in_0 : decode cX9_in 0 = .ok (.iload_n 0, 1) := by decide +kernel
theorem dX9_in_1 : decode cX9_in 1 = .ok (.iload_n 1, 1) := by decide +kernel
theorem dX9_in_2 : decode cX9_in 2 = .ok (.if_icmp .lt 12, 3) := by decide +kernel
theorem dX9_in_5 : decode cX9_in 5 = .ok (.iload_n 0, 1) := by decide +kernel
theorem dX9_in_6 : decode cX9_in 6 = .ok (.iload_n 2, 1) := by decide +kernel
theorem dX9_in_7 : decode cX9_in 7 = .ok (.if_icmp .gt 7, 3) := by decide +kernel
theorem dX9_in_10 : decode cX9_in 10 = .ok (.iconst 1, 1) := by decide +kernel
theorem dX9_in_11 : decode cX9_in 11 = .ok (.goto 4, 3) := by decide +kernel
theorem dX9_in_14 : decode cX9_in 14 = .ok (.iconst 0, 1) := by decide +kernel
theorem dX9_in_15 : decode cX9_in 15 = .ok (.ireturn, 1) := by decide +kernel
theorem dX9_isPerson_0 : decode cX9_isPerson 0 = .ok (.iload_n 1, 1) := by decide +kernel
theorem dX9_isPerson_1 : decode cX9_isPerson 1 = .ok (.iconst 0, 1) := by decide +kernel
theorem dX9_isPerson_2 : decode cX9_isPerson 2 = .ok (.aload_n 0, 1) := by decide +kernel
theorem dX9_isPerson_3 : decode cX9_isPerson 3 = .ok (.getfield 106, 3) := by decide +kernel
theorem dX9_isPerson_6 : decode cX9_isPerson 6 = .ok (.iconst 1, 1) := by decide +kernel
theorem dX9_isPerson_7 : decode cX9_isPerson 7 = .ok (.isub, 1) := by decide +kernel
theorem dX9_isPerson_8 : decode cX9_isPerson 8 = .ok (.invokestatic 109, 3) := by decide +kernel
theorem dX9_isPerson_11 : decode cX9_isPerson 11 = .ok (.ireturn, 1) := by decide +kernel
theorem dX9_isClaim_0 : decode cX9_isClaim 0 = .ok (.iload_n 1, 1) := by decide +kernel
theorem dX9_isClaim_1 : decode cX9_isClaim 1 = .ok (.iconst 0, 1) := by decide +kernel
theorem dX9_isClaim_2 : decode cX9_isClaim 2 = .ok (.aload_n 0, 1) := by decide +kernel
theorem dX9_isClaim_3 : decode cX9_isClaim 3 = .ok (.getfield 113, 3) := by decide +kernel
theorem dX9_isClaim_6 : decode cX9_isClaim 6 = .ok (.iconst 1, 1) := by decide +kernel
theorem dX9_isClaim_7 : decode cX9_isClaim 7 = .ok (.isub, 1) := by decide +kernel
theorem dX9_isClaim_8 : decode cX9_isClaim 8 = .ok (.invokestatic 109, 3) := by decide +kernel
theorem dX9_isClaim_11 : decode cX9_isClaim 11 = .ok (.ireturn, 1) := by decide +kernel
theorem dX9_isSide_0 : decode cX9_isSide 0 = .ok (.iload_n 0, 1) := by decide +kernel
theorem dX9_isSide_1 : decode cX9_isSide 1 = .ok (.iconst 0, 1) := by decide +kernel
theorem dX9_isSide_2 : decode cX9_isSide 2 = .ok (.iconst 1, 1) := by decide +kernel
theorem dX9_isSide_3 : decode cX9_isSide 3 = .ok (.invokestatic 109, 3) := by decide +kernel
theorem dX9_isSide_6 : decode cX9_isSide 6 = .ok (.ireturn, 1) := by decide +kernel
theorem dX9_its_0 : decode cX9_its 0 = .ok (.aload_n 0, 1) := by decide +kernel
theorem dX9_its_1 : decode cX9_its 1 = .ok (.getfield 22, 3) := by decide +kernel
theorem dX9_its_4 : decode cX9_its 4 = .ok (.bipush 11, 2) := by decide +kernel
theorem dX9_its_6 : decode cX9_its 6 = .ok (.iload_n 1, 1) := by decide +kernel
theorem dX9_its_7 : decode cX9_its 7 = .ok (.imul, 1) := by decide +kernel
theorem dX9_its_8 : decode cX9_its 8 = .ok (.iload_n 2, 1) := by decide +kernel
theorem dX9_its_9 : decode cX9_its 9 = .ok (.iadd, 1) := by decide +kernel
theorem dX9_its_10 : decode cX9_its 10 = .ok (.iaload, 1) := by decide +kernel
theorem dX9_its_11 : decode cX9_its 11 = .ok (.ireturn, 1) := by decide +kernel
theorem dX9_ones_0 : decode cX9_ones 0 = .ok (.iconst 0, 1) := by decide +kernel
theorem dX9_ones_1 : decode cX9_ones 1 = .ok (.istore_n 1, 1) := by decide +kernel
theorem dX9_ones_2 : decode cX9_ones 2 = .ok (.iload_n 0, 1) := by decide +kernel
theorem dX9_ones_3 : decode cX9_ones 3 = .ok (.istore_n 2, 1) := by decide +kernel
theorem dX9_ones_4 : decode cX9_ones 4 = .ok (.iload_n 2, 1) := by decide +kernel
theorem dX9_ones_5 : decode cX9_ones 5 = .ok (.ifCond .eq 15, 3) := by decide +kernel
theorem dX9_ones_8 : decode cX9_ones 8 = .ok (.iinc 1 1, 3) := by decide +kernel
theorem dX9_ones_11 : decode cX9_ones 11 = .ok (.iload_n 2, 1) := by decide +kernel
theorem dX9_ones_12 : decode cX9_ones 12 = .ok (.iload_n 2, 1) := by decide +kernel
theorem dX9_ones_13 : decode cX9_ones 13 = .ok (.iconst 1, 1) := by decide +kernel
theorem dX9_ones_14 : decode cX9_ones 14 = .ok (.isub, 1) := by decide +kernel
theorem dX9_ones_15 : decode cX9_ones 15 = .ok (.iand, 1) := by decide +kernel
theorem dX9_ones_16 : decode cX9_ones 16 = .ok (.istore_n 2, 1) := by decide +kernel
theorem dX9_ones_17 : decode cX9_ones 17 = .ok (.goto (-13), 3) := by decide +kernel
theorem dX9_ones_20 : decode cX9_ones 20 = .ok (.iload_n 1, 1) := by decide +kernel
theorem dX9_ones_21 : decode cX9_ones 21 = .ok (.ireturn, 1) := by decide +kernel
theorem dX9_feed_0 : decode cX9_feed 0 = .ok (.iload_n 3, 1) := by decide +kernel
theorem dX9_feed_1 : decode cX9_feed 1 = .ok (.iconst 1, 1) := by decide +kernel
theorem dX9_feed_2 : decode cX9_feed 2 = .ok (.bipush 8, 2) := by decide +kernel
theorem dX9_feed_4 : decode cX9_feed 4 = .ok (.invokestatic 109, 3) := by decide +kernel
theorem dX9_feed_7 : decode cX9_feed 7 = .ok (.ifCond .ne 5, 3) := by decide +kernel
theorem dX9_feed_10 : decode cX9_feed 10 = .ok (.iconst (-1), 1) := by decide +kernel
theorem dX9_feed_11 : decode cX9_feed 11 = .ok (.ireturn, 1) := by decide +kernel
theorem dX9_feed_12 : decode cX9_feed 12 = .ok (.aload_n 0, 1) := by decide +kernel
theorem dX9_feed_13 : decode cX9_feed 13 = .ok (.getfield 116, 3) := by decide +kernel
theorem dX9_feed_16 : decode cX9_feed 16 = .ok (.iload_n 3, 1) := by decide +kernel
theorem dX9_feed_17 : decode cX9_feed 17 = .ok (.iadd, 1) := by decide +kernel
theorem dX9_feed_18 : decode cX9_feed 18 = .ok (.sipush 200, 3) := by decide +kernel
theorem dX9_feed_21 : decode cX9_feed 21 = .ok (.if_icmp .le 6, 3) := by decide +kernel
theorem dX9_feed_24 : decode cX9_feed 24 = .ok (.bipush (-2), 2) := by decide +kernel
theorem dX9_feed_26 : decode cX9_feed 26 = .ok (.ireturn, 1) := by decide +kernel
theorem dX9_feed_27 : decode cX9_feed 27 = .ok (.iconst 0, 1) := by decide +kernel
theorem dX9_feed_28 : decode cX9_feed 28 = .ok (.istore 4, 2) := by decide +kernel
theorem dX9_feed_30 : decode cX9_feed 30 = .ok (.iload 4, 2) := by decide +kernel
theorem dX9_feed_32 : decode cX9_feed 32 = .ok (.iload_n 3, 1) := by decide +kernel
theorem dX9_feed_33 : decode cX9_feed 33 = .ok (.if_icmp .ge 40, 3) := by decide +kernel
theorem dX9_feed_36 : decode cX9_feed 36 = .ok (.aload_n 0, 1) := by decide +kernel
theorem dX9_feed_37 : decode cX9_feed 37 = .ok (.getfield 41, 3) := by decide +kernel
theorem dX9_feed_40 : decode cX9_feed 40 = .ok (.aload_n 0, 1) := by decide +kernel
theorem dX9_feed_41 : decode cX9_feed 41 = .ok (.getfield 116, 3) := by decide +kernel
theorem dX9_feed_44 : decode cX9_feed 44 = .ok (.lload_n 1, 1) := by decide +kernel
theorem dX9_feed_45 : decode cX9_feed 45 = .ok (.bipush 8, 2) := by decide +kernel
theorem dX9_feed_47 : decode cX9_feed 47 = .ok (.iload 4, 2) := by decide +kernel
theorem dX9_feed_49 : decode cX9_feed 49 = .ok (.imul, 1) := by decide +kernel
theorem dX9_feed_50 : decode cX9_feed 50 = .ok (.lshr, 1) := by decide +kernel
theorem dX9_feed_51 : decode cX9_feed 51 = .ok (.ldc2_w 119, 3) := by decide +kernel
theorem dX9_feed_54 : decode cX9_feed 54 = .ok (.land, 1) := by decide +kernel
theorem dX9_feed_55 : decode cX9_feed 55 = .ok (.l2i, 1) := by decide +kernel
theorem dX9_feed_56 : decode cX9_feed 56 = .ok (.iastore, 1) := by decide +kernel
theorem dX9_feed_57 : decode cX9_feed 57 = .ok (.aload_n 0, 1) := by decide +kernel
theorem dX9_feed_58 : decode cX9_feed 58 = .ok (.dup, 1) := by decide +kernel
theorem dX9_feed_59 : decode cX9_feed 59 = .ok (.getfield 116, 3) := by decide +kernel
theorem dX9_feed_62 : decode cX9_feed 62 = .ok (.iconst 1, 1) := by decide +kernel
theorem dX9_feed_63 : decode cX9_feed 63 = .ok (.iadd, 1) := by decide +kernel
theorem dX9_feed_64 : decode cX9_feed 64 = .ok (.putfield 116, 3) := by decide +kernel
theorem dX9_feed_67 : decode cX9_feed 67 = .ok (.iinc 4 1, 3) := by decide +kernel
theorem dX9_feed_70 : decode cX9_feed 70 = .ok (.goto (-40), 3) := by decide +kernel
theorem dX9_feed_73 : decode cX9_feed 73 = .ok (.aload_n 0, 1) := by decide +kernel
theorem dX9_feed_74 : decode cX9_feed 74 = .ok (.getfield 116, 3) := by decide +kernel
theorem dX9_feed_77 : decode cX9_feed 77 = .ok (.ireturn, 1) := by decide +kernel
theorem dX9_byteAt_0 : decode cX9_byteAt 0 = .ok (.iload_n 1, 1) := by decide +kernel
theorem dX9_byteAt_1 : decode cX9_byteAt 1 = .ok (.aload_n 0, 1) := by decide +kernel
theorem dX9_byteAt_2 : decode cX9_byteAt 2 = .ok (.getfield 116, 3) := by decide +kernel
theorem dX9_byteAt_5 : decode cX9_byteAt 5 = .ok (.if_icmp .ge 12, 3) := by decide +kernel
theorem dX9_byteAt_8 : decode cX9_byteAt 8 = .ok (.aload_n 0, 1) := by decide +kernel
theorem dX9_byteAt_9 : decode cX9_byteAt 9 = .ok (.getfield 41, 3) := by decide +kernel
theorem dX9_byteAt_12 : decode cX9_byteAt 12 = .ok (.iload_n 1, 1) := by decide +kernel
theorem dX9_byteAt_13 : decode cX9_byteAt 13 = .ok (.iaload, 1) := by decide +kernel
theorem dX9_byteAt_14 : decode cX9_byteAt 14 = .ok (.goto 4, 3) := by decide +kernel
theorem dX9_byteAt_17 : decode cX9_byteAt 17 = .ok (.iconst (-1), 1) := by decide +kernel
theorem dX9_byteAt_18 : decode cX9_byteAt 18 = .ok (.ireturn, 1) := by decide +kernel
theorem dX9_isLetter_0 : decode cX9_isLetter 0 = .ok (.iload_n 0, 1) := by decide +kernel
theorem dX9_isLetter_1 : decode cX9_isLetter 1 = .ok (.bipush 97, 2) := by decide +kernel
theorem dX9_isLetter_3 : decode cX9_isLetter 3 = .ok (.bipush 122, 2) := by decide +kernel
theorem dX9_isLetter_5 : decode cX9_isLetter 5 = .ok (.invokestatic 109, 3) := by decide +kernel
theorem dX9_isLetter_8 : decode cX9_isLetter 8 = .ok (.ireturn, 1) := by decide +kernel
theorem dX9_isDigit_0 : decode cX9_isDigit 0 = .ok (.iload_n 0, 1) := by decide +kernel
theorem dX9_isDigit_1 : decode cX9_isDigit 1 = .ok (.bipush 48, 2) := by decide +kernel
theorem dX9_isDigit_3 : decode cX9_isDigit 3 = .ok (.bipush 57, 2) := by decide +kernel
theorem dX9_isDigit_5 : decode cX9_isDigit 5 = .ok (.invokestatic 109, 3) := by decide +kernel
theorem dX9_isDigit_8 : decode cX9_isDigit 8 = .ok (.ireturn, 1) := by decide +kernel
theorem dX9_advance_0 : decode cX9_advance 0 = .ok (.aload_n 0, 1) := by decide +kernel
theorem dX9_advance_1 : decode cX9_advance 1 = .ok (.aload_n 0, 1) := by decide +kernel
theorem dX9_advance_2 : decode cX9_advance 2 = .ok (.getfield 121, 3) := by decide +kernel
theorem dX9_advance_5 : decode cX9_advance 5 = .ok (.putfield 124, 3) := by decide +kernel
theorem dX9_advance_8 : decode cX9_advance 8 = .ok (.aload_n 0, 1) := by decide +kernel
theorem dX9_advance_9 : decode cX9_advance 9 = .ok (.aload_n 0, 1) := by decide +kernel
theorem dX9_advance_10 : decode cX9_advance 10 = .ok (.getfield 124, 3) := by decide +kernel
theorem dX9_advance_13 : decode cX9_advance 13 = .ok (.invokevirtual 127, 3) := by decide +kernel
theorem dX9_advance_16 : decode cX9_advance 16 = .ok (.bipush 32, 2) := by decide +kernel
theorem dX9_advance_18 : decode cX9_advance 18 = .ok (.if_icmp .ne 16, 3) := by decide +kernel
theorem dX9_advance_21 : decode cX9_advance 21 = .ok (.aload_n 0, 1) := by decide +kernel
theorem dX9_advance_22 : decode cX9_advance 22 = .ok (.dup, 1) := by decide +kernel
theorem dX9_advance_23 : decode cX9_advance 23 = .ok (.getfield 124, 3) := by decide +kernel
theorem dX9_advance_26 : decode cX9_advance 26 = .ok (.iconst 1, 1) := by decide +kernel
theorem dX9_advance_27 : decode cX9_advance 27 = .ok (.iadd, 1) := by decide +kernel
theorem dX9_advance_28 : decode cX9_advance 28 = .ok (.putfield 124, 3) := by decide +kernel
theorem dX9_advance_31 : decode cX9_advance 31 = .ok (.goto (-23), 3) := by decide +kernel
theorem dX9_advance_34 : decode cX9_advance 34 = .ok (.aload_n 0, 1) := by decide +kernel
theorem dX9_advance_35 : decode cX9_advance 35 = .ok (.aload_n 0, 1) := by decide +kernel
theorem dX9_advance_36 : decode cX9_advance 36 = .ok (.getfield 124, 3) := by decide +kernel
theorem dX9_advance_39 : decode cX9_advance 39 = .ok (.putfield 121, 3) := by decide +kernel
theorem dX9_advance_42 : decode cX9_advance 42 = .ok (.aload_n 0, 1) := by decide +kernel
theorem dX9_advance_43 : decode cX9_advance 43 = .ok (.aload_n 0, 1) := by decide +kernel
theorem dX9_advance_44 : decode cX9_advance 44 = .ok (.getfield 124, 3) := by decide +kernel
theorem dX9_advance_47 : decode cX9_advance 47 = .ok (.invokevirtual 127, 3) := by decide +kernel
theorem dX9_advance_50 : decode cX9_advance 50 = .ok (.istore_n 1, 1) := by decide +kernel
theorem dX9_advance_51 : decode cX9_advance 51 = .ok (.aload_n 0, 1) := by decide +kernel
theorem dX9_advance_52 : decode cX9_advance 52 = .ok (.iload_n 1, 1) := by decide +kernel
theorem dX9_advance_53 : decode cX9_advance 53 = .ok (.ifCond .ge 7, 3) := by decide +kernel
theorem dX9_advance_56 : decode cX9_advance 56 = .ok (.iconst 0, 1) := by decide +kernel
theorem dX9_advance_57 : decode cX9_advance 57 = .ok (.goto 26, 3) := by decide +kernel
theorem dX9_advance_60 : decode cX9_advance 60 = .ok (.iload_n 1, 1) := by decide +kernel
theorem dX9_advance_61 : decode cX9_advance 61 = .ok (.invokestatic 131, 3) := by decide +kernel
theorem dX9_advance_64 : decode cX9_advance 64 = .ok (.ifCond .eq 7, 3) := by decide +kernel
theorem dX9_advance_67 : decode cX9_advance 67 = .ok (.iconst 1, 1) := by decide +kernel
theorem dX9_advance_68 : decode cX9_advance 68 = .ok (.goto 15, 3) := by decide +kernel
theorem dX9_advance_71 : decode cX9_advance 71 = .ok (.iload_n 1, 1) := by decide +kernel
theorem dX9_advance_72 : decode cX9_advance 72 = .ok (.invokestatic 135, 3) := by decide +kernel
theorem dX9_advance_75 : decode cX9_advance 75 = .ok (.ifCond .eq 7, 3) := by decide +kernel
theorem dX9_advance_78 : decode cX9_advance 78 = .ok (.iconst 2, 1) := by decide +kernel
theorem dX9_advance_79 : decode cX9_advance 79 = .ok (.goto 4, 3) := by decide +kernel
theorem dX9_advance_82 : decode cX9_advance 82 = .ok (.iconst 3, 1) := by decide +kernel
theorem dX9_advance_83 : decode cX9_advance 83 = .ok (.putfield 138, 3) := by decide +kernel
theorem dX9_advance_86 : decode cX9_advance 86 = .ok (.aload_n 0, 1) := by decide +kernel
theorem dX9_advance_87 : decode cX9_advance 87 = .ok (.lconst 0, 1) := by decide +kernel
theorem dX9_advance_88 : decode cX9_advance 88 = .ok (.putfield 141, 3) := by decide +kernel
theorem dX9_advance_91 : decode cX9_advance 91 = .ok (.aload_n 0, 1) := by decide +kernel
theorem dX9_advance_92 : decode cX9_advance 92 = .ok (.aload_n 0, 1) := by decide +kernel
theorem dX9_advance_93 : decode cX9_advance 93 = .ok (.getfield 138, 3) := by decide +kernel
theorem dX9_advance_96 : decode cX9_advance 96 = .ok (.iconst 2, 1) := by decide +kernel
theorem dX9_advance_97 : decode cX9_advance 97 = .ok (.if_icmp .ne 7, 3) := by decide +kernel
theorem dX9_advance_100 : decode cX9_advance 100 = .ok (.iconst 0, 1) := by decide +kernel
theorem dX9_advance_101 : decode cX9_advance 101 = .ok (.goto 4, 3) := by decide +kernel
theorem dX9_advance_104 : decode cX9_advance 104 = .ok (.iload_n 1, 1) := by decide +kernel
theorem dX9_advance_105 : decode cX9_advance 105 = .ok (.putfield 145, 3) := by decide +kernel
theorem dX9_advance_108 : decode cX9_advance 108 = .ok (.aload_n 0, 1) := by decide +kernel
theorem dX9_advance_109 : decode cX9_advance 109 = .ok (.getfield 138, 3) := by decide +kernel
theorem dX9_advance_112 : decode cX9_advance 112 = .ok (.iconst 3, 1) := by decide +kernel
theorem dX9_advance_113 : decode cX9_advance 113 = .ok (.if_icmp .ne 13, 3) := by decide +kernel
theorem dX9_advance_116 : decode cX9_advance 116 = .ok (.aload_n 0, 1) := by decide +kernel
theorem dX9_advance_117 : decode cX9_advance 117 = .ok (.dup, 1) := by decide +kernel
theorem dX9_advance_118 : decode cX9_advance 118 = .ok (.getfield 121, 3) := by decide +kernel
theorem dX9_advance_121 : decode cX9_advance 121 = .ok (.iconst 1, 1) := by decide +kernel
theorem dX9_advance_122 : decode cX9_advance 122 = .ok (.iadd, 1) := by decide +kernel
theorem dX9_advance_123 : decode cX9_advance 123 = .ok (.putfield 121, 3) := by decide +kernel
theorem dX9_advance_126 : decode cX9_advance 126 = .ok (.aload_n 0, 1) := by decide +kernel
theorem dX9_advance_127 : decode cX9_advance 127 = .ok (.getfield 138, 3) := by decide +kernel
theorem dX9_advance_130 : decode cX9_advance 130 = .ok (.iconst 1, 1) := by decide +kernel
theorem dX9_advance_131 : decode cX9_advance 131 = .ok (.if_icmp .ne 76, 3) := by decide +kernel
theorem dX9_advance_134 : decode cX9_advance 134 = .ok (.aload_n 0, 1) := by decide +kernel
theorem dX9_advance_135 : decode cX9_advance 135 = .ok (.aload_n 0, 1) := by decide +kernel
theorem dX9_advance_136 : decode cX9_advance 136 = .ok (.getfield 121, 3) := by decide +kernel
theorem dX9_advance_139 : decode cX9_advance 139 = .ok (.invokevirtual 127, 3) := by decide +kernel
theorem dX9_advance_142 : decode cX9_advance 142 = .ok (.invokestatic 131, 3) := by decide +kernel
theorem dX9_advance_145 : decode cX9_advance 145 = .ok (.ifCond .eq 62, 3) := by decide +kernel
theorem dX9_advance_148 : decode cX9_advance 148 = .ok (.aload_n 0, 1) := by decide +kernel
theorem dX9_advance_149 : decode cX9_advance 149 = .ok (.aload_n 0, 1) := by decide +kernel
theorem dX9_advance_150 : decode cX9_advance 150 = .ok (.getfield 121, 3) := by decide +kernel
theorem dX9_advance_153 : decode cX9_advance 153 = .ok (.aload_n 0, 1) := by decide +kernel
theorem dX9_advance_154 : decode cX9_advance 154 = .ok (.getfield 124, 3) := by decide +kernel
theorem dX9_advance_157 : decode cX9_advance 157 = .ok (.isub, 1) := by decide +kernel
theorem dX9_advance_158 : decode cX9_advance 158 = .ok (.bipush 8, 2) := by decide +kernel
theorem dX9_advance_160 : decode cX9_advance 160 = .ok (.if_icmp .ge 28, 3) := by decide +kernel
theorem dX9_advance_163 : decode cX9_advance 163 = .ok (.ldc2_w 148, 3) := by decide +kernel
theorem dX9_advance_166 : decode cX9_advance 166 = .ok (.aload_n 0, 1) := by decide +kernel
theorem dX9_advance_167 : decode cX9_advance 167 = .ok (.getfield 141, 3) := by decide +kernel
theorem dX9_advance_170 : decode cX9_advance 170 = .ok (.lmul, 1) := by decide +kernel
theorem dX9_advance_171 : decode cX9_advance 171 = .ok (.aload_n 0, 1) := by decide +kernel
theorem dX9_advance_172 : decode cX9_advance 172 = .ok (.aload_n 0, 1) := by decide +kernel
theorem dX9_advance_173 : decode cX9_advance 173 = .ok (.getfield 121, 3) := by decide +kernel
theorem dX9_advance_176 : decode cX9_advance 176 = .ok (.invokevirtual 127, 3) := by decide +kernel
theorem dX9_advance_179 : decode cX9_advance 179 = .ok (.i2l, 1) := by decide +kernel
theorem dX9_advance_180 : decode cX9_advance 180 = .ok (.ladd, 1) := by decide +kernel
theorem dX9_advance_181 : decode cX9_advance 181 = .ok (.ldc2_w 150, 3) := by decide +kernel
theorem dX9_advance_184 : decode cX9_advance 184 = .ok (.lsub, 1) := by decide +kernel
theorem dX9_advance_185 : decode cX9_advance 185 = .ok (.goto 6, 3) := by decide +kernel
theorem dX9_advance_188 : decode cX9_advance 188 = .ok (.ldc2_w 152, 3) := by decide +kernel
theorem dX9_advance_191 : decode cX9_advance 191 = .ok (.putfield 141, 3) := by decide +kernel
theorem dX9_advance_194 : decode cX9_advance 194 = .ok (.aload_n 0, 1) := by decide +kernel
theorem dX9_advance_195 : decode cX9_advance 195 = .ok (.dup, 1) := by decide +kernel
theorem dX9_advance_196 : decode cX9_advance 196 = .ok (.getfield 121, 3) := by decide +kernel
theorem dX9_advance_199 : decode cX9_advance 199 = .ok (.iconst 1, 1) := by decide +kernel
theorem dX9_advance_200 : decode cX9_advance 200 = .ok (.iadd, 1) := by decide +kernel
theorem dX9_advance_201 : decode cX9_advance 201 = .ok (.putfield 121, 3) := by decide +kernel
theorem dX9_advance_204 : decode cX9_advance 204 = .ok (.goto (-78), 3) := by decide +kernel
theorem dX9_advance_207 : decode cX9_advance 207 = .ok (.aload_n 0, 1) := by decide +kernel
theorem dX9_advance_208 : decode cX9_advance 208 = .ok (.getfield 138, 3) := by decide +kernel
theorem dX9_advance_211 : decode cX9_advance 211 = .ok (.iconst 2, 1) := by decide +kernel
theorem dX9_advance_212 : decode cX9_advance 212 = .ok (.if_icmp .ne 70, 3) := by decide +kernel
theorem dX9_advance_215 : decode cX9_advance 215 = .ok (.aload_n 0, 1) := by decide +kernel
theorem dX9_advance_216 : decode cX9_advance 216 = .ok (.aload_n 0, 1) := by decide +kernel
theorem dX9_advance_217 : decode cX9_advance 217 = .ok (.getfield 121, 3) := by decide +kernel
theorem dX9_advance_220 : decode cX9_advance 220 = .ok (.invokevirtual 127, 3) := by decide +kernel
theorem dX9_advance_223 : decode cX9_advance 223 = .ok (.invokestatic 135, 3) := by decide +kernel
theorem dX9_advance_226 : decode cX9_advance 226 = .ok (.ifCond .eq 56, 3) := by decide +kernel
theorem dX9_advance_229 : decode cX9_advance 229 = .ok (.aload_n 0, 1) := by decide +kernel
theorem dX9_advance_230 : decode cX9_advance 230 = .ok (.aload_n 0, 1) := by decide +kernel
theorem dX9_advance_231 : decode cX9_advance 231 = .ok (.getfield 121, 3) := by decide +kernel
theorem dX9_advance_234 : decode cX9_advance 234 = .ok (.aload_n 0, 1) := by decide +kernel
theorem dX9_advance_235 : decode cX9_advance 235 = .ok (.getfield 124, 3) := by decide +kernel
theorem dX9_advance_238 : decode cX9_advance 238 = .ok (.isub, 1) := by decide +kernel
theorem dX9_advance_239 : decode cX9_advance 239 = .ok (.iconst 3, 1) := by decide +kernel
theorem dX9_advance_240 : decode cX9_advance 240 = .ok (.if_icmp .ge 25, 3) := by decide +kernel
theorem dX9_advance_243 : decode cX9_advance 243 = .ok (.bipush 10, 2) := by decide +kernel
theorem dX9_advance_245 : decode cX9_advance 245 = .ok (.aload_n 0, 1) := by decide +kernel
theorem dX9_advance_246 : decode cX9_advance 246 = .ok (.getfield 145, 3) := by decide +kernel
theorem dX9_advance_249 : decode cX9_advance 249 = .ok (.imul, 1) := by decide +kernel
theorem dX9_advance_250 : decode cX9_advance 250 = .ok (.aload_n 0, 1) := by decide +kernel
theorem dX9_advance_251 : decode cX9_advance 251 = .ok (.aload_n 0, 1) := by decide +kernel
theorem dX9_advance_252 : decode cX9_advance 252 = .ok (.getfield 121, 3) := by decide +kernel
theorem dX9_advance_255 : decode cX9_advance 255 = .ok (.invokevirtual 127, 3) := by decide +kernel
theorem dX9_advance_258 : decode cX9_advance 258 = .ok (.iadd, 1) := by decide +kernel
theorem dX9_advance_259 : decode cX9_advance 259 = .ok (.bipush 48, 2) := by decide +kernel
theorem dX9_advance_261 : decode cX9_advance 261 = .ok (.isub, 1) := by decide +kernel
theorem dX9_advance_262 : decode cX9_advance 262 = .ok (.goto 4, 3) := by decide +kernel
theorem dX9_advance_265 : decode cX9_advance 265 = .ok (.iconst (-1), 1) := by decide +kernel
theorem dX9_advance_266 : decode cX9_advance 266 = .ok (.putfield 145, 3) := by decide +kernel
theorem dX9_advance_269 : decode cX9_advance 269 = .ok (.aload_n 0, 1) := by decide +kernel
theorem dX9_advance_270 : decode cX9_advance 270 = .ok (.dup, 1) := by decide +kernel
theorem dX9_advance_271 : decode cX9_advance 271 = .ok (.getfield 121, 3) := by decide +kernel
theorem dX9_advance_274 : decode cX9_advance 274 = .ok (.iconst 1, 1) := by decide +kernel
theorem dX9_advance_275 : decode cX9_advance 275 = .ok (.iadd, 1) := by decide +kernel
theorem dX9_advance_276 : decode cX9_advance 276 = .ok (.putfield 121, 3) := by decide +kernel
theorem dX9_advance_279 : decode cX9_advance 279 = .ok (.goto (-72), 3) := by decide +kernel
theorem dX9_advance_282 : decode cX9_advance 282 = .ok (.return_, 1) := by decide +kernel
theorem dX9_isWord_0 : decode cX9_isWord 0 = .ok (.aload_n 0, 1) := by decide +kernel
theorem dX9_isWord_1 : decode cX9_isWord 1 = .ok (.getfield 138, 3) := by decide +kernel
theorem dX9_isWord_4 : decode cX9_isWord 4 = .ok (.iconst 1, 1) := by decide +kernel
theorem dX9_isWord_5 : decode cX9_isWord 5 = .ok (.if_icmp .ne 16, 3) := by decide +kernel
theorem dX9_isWord_8 : decode cX9_isWord 8 = .ok (.aload_n 0, 1) := by decide +kernel
theorem dX9_isWord_9 : decode cX9_isWord 9 = .ok (.getfield 141, 3) := by decide +kernel
theorem dX9_isWord_12 : decode cX9_isWord 12 = .ok (.lload_n 1, 1) := by decide +kernel
theorem dX9_isWord_13 : decode cX9_isWord 13 = .ok (.lcmp, 1) := by decide +kernel
theorem dX9_isWord_14 : decode cX9_isWord 14 = .ok (.ifCond .ne 7, 3) := by decide +kernel
theorem dX9_isWord_17 : decode cX9_isWord 17 = .ok (.iconst 1, 1) := by decide +kernel
theorem dX9_isWord_18 : decode cX9_isWord 18 = .ok (.goto 4, 3) := by decide +kernel
theorem dX9_isWord_21 : decode cX9_isWord 21 = .ok (.iconst 0, 1) := by decide +kernel
theorem dX9_isWord_22 : decode cX9_isWord 22 = .ok (.ireturn, 1) := by decide +kernel
theorem dX9_isMark_0 : decode cX9_isMark 0 = .ok (.aload_n 0, 1) := by decide +kernel
theorem dX9_isMark_1 : decode cX9_isMark 1 = .ok (.getfield 138, 3) := by decide +kernel
theorem dX9_isMark_4 : decode cX9_isMark 4 = .ok (.iconst 3, 1) := by decide +kernel
theorem dX9_isMark_5 : decode cX9_isMark 5 = .ok (.if_icmp .ne 15, 3) := by decide +kernel
theorem dX9_isMark_8 : decode cX9_isMark 8 = .ok (.aload_n 0, 1) := by decide +kernel
theorem dX9_isMark_9 : decode cX9_isMark 9 = .ok (.getfield 145, 3) := by decide +kernel
theorem dX9_isMark_12 : decode cX9_isMark 12 = .ok (.iload_n 1, 1) := by decide +kernel
theorem dX9_isMark_13 : decode cX9_isMark 13 = .ok (.if_icmp .ne 7, 3) := by decide +kernel
theorem dX9_isMark_16 : decode cX9_isMark 16 = .ok (.iconst 1, 1) := by decide +kernel
theorem dX9_isMark_17 : decode cX9_isMark 17 = .ok (.goto 4, 3) := by decide +kernel
theorem dX9_isMark_20 : decode cX9_isMark 20 = .ok (.iconst 0, 1) := by decide +kernel
theorem dX9_isMark_21 : decode cX9_isMark 21 = .ok (.ireturn, 1) := by decide +kernel
theorem dX9_factHere_0 : decode cX9_factHere 0 = .ok (.aload_n 0, 1) := by decide +kernel
theorem dX9_factHere_1 : decode cX9_factHere 1 = .ok (.ldc2_w 154, 3) := by decide +kernel
theorem dX9_factHere_4 : decode cX9_factHere 4 = .ok (.invokevirtual 156, 3) := by decide +kernel
theorem dX9_factHere_7 : decode cX9_factHere 7 = .ok (.ifCond .eq 7, 3) := by decide +kernel
theorem dX9_factHere_10 : decode cX9_factHere 10 = .ok (.iconst 0, 1) := by decide +kernel
theorem dX9_factHere_11 : decode cX9_factHere 11 = .ok (.goto 74, 3) := by decide +kernel
theorem dX9_factHere_14 : decode cX9_factHere 14 = .ok (.aload_n 0, 1) := by decide +kernel
theorem dX9_factHere_15 : decode cX9_factHere 15 = .ok (.ldc2_w 160, 3) := by decide +kernel
theorem dX9_factHere_18 : decode cX9_factHere 18 = .ok (.invokevirtual 156, 3) := by decide +kernel
theorem dX9_factHere_21 : decode cX9_factHere 21 = .ok (.ifCond .eq 7, 3) := by decide +kernel
theorem dX9_factHere_24 : decode cX9_factHere 24 = .ok (.iconst 1, 1) := by decide +kernel
theorem dX9_factHere_25 : decode cX9_factHere 25 = .ok (.goto 60, 3) := by decide +kernel
theorem dX9_factHere_28 : decode cX9_factHere 28 = .ok (.aload_n 0, 1) := by decide +kernel
theorem dX9_factHere_29 : decode cX9_factHere 29 = .ok (.ldc2_w 162, 3) := by decide +kernel
theorem dX9_factHere_32 : decode cX9_factHere 32 = .ok (.invokevirtual 156, 3) := by decide +kernel
theorem dX9_factHere_35 : decode cX9_factHere 35 = .ok (.ifCond .eq 7, 3) := by decide +kernel
theorem dX9_factHere_38 : decode cX9_factHere 38 = .ok (.iconst 2, 1) := by decide +kernel
theorem dX9_factHere_39 : decode cX9_factHere 39 = .ok (.goto 46, 3) := by decide +kernel
theorem dX9_factHere_42 : decode cX9_factHere 42 = .ok (.aload_n 0, 1) := by decide +kernel
theorem dX9_factHere_43 : decode cX9_factHere 43 = .ok (.ldc2_w 164, 3) := by decide +kernel
theorem dX9_factHere_46 : decode cX9_factHere 46 = .ok (.invokevirtual 156, 3) := by decide +kernel
theorem dX9_factHere_49 : decode cX9_factHere 49 = .ok (.ifCond .eq 7, 3) := by decide +kernel
theorem dX9_factHere_52 : decode cX9_factHere 52 = .ok (.iconst 3, 1) := by decide +kernel
theorem dX9_factHere_53 : decode cX9_factHere 53 = .ok (.goto 32, 3) := by decide +kernel
theorem dX9_factHere_56 : decode cX9_factHere 56 = .ok (.aload_n 0, 1) := by decide +kernel
theorem dX9_factHere_57 : decode cX9_factHere 57 = .ok (.ldc2_w 166, 3) := by decide +kernel
theorem dX9_factHere_60 : decode cX9_factHere 60 = .ok (.invokevirtual 156, 3) := by decide +kernel
theorem dX9_factHere_63 : decode cX9_factHere 63 = .ok (.ifCond .eq 7, 3) := by decide +kernel
theorem dX9_factHere_66 : decode cX9_factHere 66 = .ok (.iconst 4, 1) := by decide +kernel
theorem dX9_factHere_67 : decode cX9_factHere 67 = .ok (.goto 18, 3) := by decide +kernel
theorem dX9_factHere_70 : decode cX9_factHere 70 = .ok (.aload_n 0, 1) := by decide +kernel
theorem dX9_factHere_71 : decode cX9_factHere 71 = .ok (.ldc2_w 168, 3) := by decide +kernel
theorem dX9_factHere_74 : decode cX9_factHere 74 = .ok (.invokevirtual 156, 3) := by decide +kernel
theorem dX9_factHere_77 : decode cX9_factHere 77 = .ok (.ifCond .eq 7, 3) := by decide +kernel
theorem dX9_factHere_80 : decode cX9_factHere 80 = .ok (.iconst 5, 1) := by decide +kernel
theorem dX9_factHere_81 : decode cX9_factHere 81 = .ok (.goto 4, 3) := by decide +kernel
theorem dX9_factHere_84 : decode cX9_factHere 84 = .ok (.iconst (-1), 1) := by decide +kernel
theorem dX9_factHere_85 : decode cX9_factHere 85 = .ok (.ireturn, 1) := by decide +kernel
theorem dX9_emit_0 : decode cX9_emit 0 = .ok (.aload_n 0, 1) := by decide +kernel
theorem dX9_emit_1 : decode cX9_emit 1 = .ok (.getfield 47, 3) := by decide +kernel
theorem dX9_emit_4 : decode cX9_emit 4 = .ok (.aload_n 0, 1) := by decide +kernel
theorem dX9_emit_5 : decode cX9_emit 5 = .ok (.getfield 170, 3) := by decide +kernel
theorem dX9_emit_8 : decode cX9_emit 8 = .ok (.iload_n 1, 1) := by decide +kernel
theorem dX9_emit_9 : decode cX9_emit 9 = .ok (.iastore, 1) := by decide +kernel
theorem dX9_emit_10 : decode cX9_emit 10 = .ok (.aload_n 0, 1) := by decide +kernel
theorem dX9_emit_11 : decode cX9_emit 11 = .ok (.dup, 1) := by decide +kernel
theorem dX9_emit_12 : decode cX9_emit 12 = .ok (.getfield 170, 3) := by decide +kernel
theorem dX9_emit_15 : decode cX9_emit 15 = .ok (.iconst 1, 1) := by decide +kernel
theorem dX9_emit_16 : decode cX9_emit 16 = .ok (.iadd, 1) := by decide +kernel
theorem dX9_emit_17 : decode cX9_emit 17 = .ok (.putfield 170, 3) := by decide +kernel
theorem dX9_emit_20 : decode cX9_emit 20 = .ok (.return_, 1) := by decide +kernel
theorem dX9_pend_0 : decode cX9_pend 0 = .ok (.aload_n 0, 1) := by decide +kernel
theorem dX9_pend_1 : decode cX9_pend 1 = .ok (.getfield 50, 3) := by decide +kernel
theorem dX9_pend_4 : decode cX9_pend 4 = .ok (.aload_n 0, 1) := by decide +kernel
theorem dX9_pend_5 : decode cX9_pend 5 = .ok (.getfield 173, 3) := by decide +kernel
theorem dX9_pend_8 : decode cX9_pend 8 = .ok (.iload_n 1, 1) := by decide +kernel
theorem dX9_pend_9 : decode cX9_pend 9 = .ok (.iastore, 1) := by decide +kernel
theorem dX9_pend_10 : decode cX9_pend 10 = .ok (.aload_n 0, 1) := by decide +kernel
theorem dX9_pend_11 : decode cX9_pend 11 = .ok (.dup, 1) := by decide +kernel
theorem dX9_pend_12 : decode cX9_pend 12 = .ok (.getfield 173, 3) := by decide +kernel
theorem dX9_pend_15 : decode cX9_pend 15 = .ok (.iconst 1, 1) := by decide +kernel
theorem dX9_pend_16 : decode cX9_pend 16 = .ok (.iadd, 1) := by decide +kernel
theorem dX9_pend_17 : decode cX9_pend 17 = .ok (.putfield 173, 3) := by decide +kernel
theorem dX9_pend_20 : decode cX9_pend 20 = .ok (.return_, 1) := by decide +kernel
theorem dX9_isTop_0 : decode cX9_isTop 0 = .ok (.aload_n 0, 1) := by decide +kernel
theorem dX9_isTop_1 : decode cX9_isTop 1 = .ok (.getfield 173, 3) := by decide +kernel
theorem dX9_isTop_4 : decode cX9_isTop 4 = .ok (.ifCond .le 22, 3) := by decide +kernel
theorem dX9_isTop_7 : decode cX9_isTop 7 = .ok (.aload_n 0, 1) := by decide +kernel
theorem dX9_isTop_8 : decode cX9_isTop 8 = .ok (.getfield 50, 3) := by decide +kernel
theorem dX9_isTop_11 : decode cX9_isTop 11 = .ok (.aload_n 0, 1) := by decide +kernel
theorem dX9_isTop_12 : decode cX9_isTop 12 = .ok (.getfield 173, 3) := by decide +kernel
theorem dX9_isTop_15 : decode cX9_isTop 15 = .ok (.iconst 1, 1) := by decide +kernel
theorem dX9_isTop_16 : decode cX9_isTop 16 = .ok (.isub, 1) := by decide +kernel
theorem dX9_isTop_17 : decode cX9_isTop 17 = .ok (.iaload, 1) := by decide +kernel
theorem dX9_isTop_18 : decode cX9_isTop 18 = .ok (.iload_n 1, 1) := by decide +kernel
theorem dX9_isTop_19 : decode cX9_isTop 19 = .ok (.if_icmp .ne 7, 3) := by decide +kernel
theorem dX9_isTop_22 : decode cX9_isTop 22 = .ok (.iconst 1, 1) := by decide +kernel
theorem dX9_isTop_23 : decode cX9_isTop 23 = .ok (.goto 4, 3) := by decide +kernel
theorem dX9_isTop_26 : decode cX9_isTop 26 = .ok (.iconst 0, 1) := by decide +kernel
theorem dX9_isTop_27 : decode cX9_isTop 27 = .ok (.ireturn, 1) := by decide +kernel
theorem dX9_settle_0 : decode cX9_settle 0 = .ok (.aload_n 0, 1) := by decide +kernel
theorem dX9_settle_1 : decode cX9_settle 1 = .ok (.iload_n 1, 1) := by decide +kernel
theorem dX9_settle_2 : decode cX9_settle 2 = .ok (.invokevirtual 176, 3) := by decide +kernel
theorem dX9_settle_5 : decode cX9_settle 5 = .ok (.ifCond .eq 21, 3) := by decide +kernel
theorem dX9_settle_8 : decode cX9_settle 8 = .ok (.aload_n 0, 1) := by decide +kernel
theorem dX9_settle_9 : decode cX9_settle 9 = .ok (.iload_n 1, 1) := by decide +kernel
theorem dX9_settle_10 : decode cX9_settle 10 = .ok (.invokevirtual 179, 3) := by decide +kernel
theorem dX9_settle_13 : decode cX9_settle 13 = .ok (.aload_n 0, 1) := by decide +kernel
theorem dX9_settle_14 : decode cX9_settle 14 = .ok (.dup, 1) := by decide +kernel
theorem dX9_settle_15 : decode cX9_settle 15 = .ok (.getfield 173, 3) := by decide +kernel
theorem dX9_settle_18 : decode cX9_settle 18 = .ok (.iconst 1, 1) := by decide +kernel
theorem dX9_settle_19 : decode cX9_settle 19 = .ok (.isub, 1) := by decide +kernel
theorem dX9_settle_20 : decode cX9_settle 20 = .ok (.putfield 173, 3) := by decide +kernel
theorem dX9_settle_23 : decode cX9_settle 23 = .ok (.goto (-23), 3) := by decide +kernel
theorem dX9_settle_26 : decode cX9_settle 26 = .ok (.return_, 1) := by decide +kernel
theorem dX9_wantValue_0 : decode cX9_wantValue 0 = .ok (.aload_n 0, 1) := by decide +kernel
theorem dX9_wantValue_1 : decode cX9_wantValue 1 = .ok (.invokevirtual 183, 3) := by decide +kernel
theorem dX9_wantValue_4 : decode cX9_wantValue 4 = .ok (.istore_n 1, 1) := by decide +kernel
theorem dX9_wantValue_5 : decode cX9_wantValue 5 = .ok (.aload_n 0, 1) := by decide +kernel
theorem dX9_wantValue_6 : decode cX9_wantValue 6 = .ok (.aload_n 0, 1) := by decide +kernel
theorem dX9_wantValue_7 : decode cX9_wantValue 7 = .ok (.getfield 187, 3) := by decide +kernel
theorem dX9_wantValue_10 : decode cX9_wantValue 10 = .ok (.ifCond .eq 26, 3) := by decide +kernel
theorem dX9_wantValue_13 : decode cX9_wantValue 13 = .ok (.iload_n 1, 1) := by decide +kernel
theorem dX9_wantValue_14 : decode cX9_wantValue 14 = .ok (.ifCond .ge 18, 3) := by decide +kernel
theorem dX9_wantValue_17 : decode cX9_wantValue 17 = .ok (.aload_n 0, 1) := by decide +kernel
theorem dX9_wantValue_18 : decode cX9_wantValue 18 = .ok (.getfield 138, 3) := by decide +kernel
theorem dX9_wantValue_21 : decode cX9_wantValue 21 = .ok (.iconst 2, 1) := by decide +kernel
theorem dX9_wantValue_22 : decode cX9_wantValue 22 = .ok (.if_icmp .ne 14, 3) := by decide +kernel
theorem dX9_wantValue_25 : decode cX9_wantValue 25 = .ok (.aload_n 0, 1) := by decide +kernel
theorem dX9_wantValue_26 : decode cX9_wantValue 26 = .ok (.getfield 145, 3) := by decide +kernel
theorem dX9_wantValue_29 : decode cX9_wantValue 29 = .ok (.ifCond .lt 7, 3) := by decide +kernel
theorem dX9_wantValue_32 : decode cX9_wantValue 32 = .ok (.iconst 1, 1) := by decide +kernel
theorem dX9_wantValue_33 : decode cX9_wantValue 33 = .ok (.goto 4, 3) := by decide +kernel
theorem dX9_wantValue_36 : decode cX9_wantValue 36 = .ok (.iconst 0, 1) := by decide +kernel
theorem dX9_wantValue_37 : decode cX9_wantValue 37 = .ok (.putfield 187, 3) := by decide +kernel
theorem dX9_wantValue_40 : decode cX9_wantValue 40 = .ok (.aload_n 0, 1) := by decide +kernel
theorem dX9_wantValue_41 : decode cX9_wantValue 41 = .ok (.getfield 187, 3) := by decide +kernel
theorem dX9_wantValue_44 : decode cX9_wantValue 44 = .ok (.ifCond .eq 27, 3) := by decide +kernel
theorem dX9_wantValue_47 : decode cX9_wantValue 47 = .ok (.aload_n 0, 1) := by decide +kernel
theorem dX9_wantValue_48 : decode cX9_wantValue 48 = .ok (.iload_n 1, 1) := by decide +kernel
theorem dX9_wantValue_49 : decode cX9_wantValue 49 = .ok (.ifCond .lt 11, 3) := by decide +kernel
theorem dX9_wantValue_52 : decode cX9_wantValue 52 = .ok (.sipush 20000, 3) := by decide +kernel
theorem dX9_wantValue_55 : decode cX9_wantValue 55 = .ok (.iload_n 1, 1) := by decide +kernel
theorem dX9_wantValue_56 : decode cX9_wantValue 56 = .ok (.iadd, 1) := by decide +kernel
theorem dX9_wantValue_57 : decode cX9_wantValue 57 = .ok (.goto 7, 3) := by decide +kernel
theorem dX9_wantValue_60 : decode cX9_wantValue 60 = .ok (.aload_n 0, 1) := by decide +kernel
theorem dX9_wantValue_61 : decode cX9_wantValue 61 = .ok (.getfield 145, 3) := by decide +kernel
theorem dX9_wantValue_64 : decode cX9_wantValue 64 = .ok (.invokevirtual 179, 3) := by decide +kernel
theorem dX9_wantValue_67 : decode cX9_wantValue 67 = .ok (.aload_n 0, 1) := by decide +kernel
theorem dX9_wantValue_68 : decode cX9_wantValue 68 = .ok (.invokevirtual 191, 3) := by decide +kernel
theorem dX9_wantValue_71 : decode cX9_wantValue 71 = .ok (.return_, 1) := by decide +kernel
theorem dX9_wantCompared_0 : decode cX9_wantCompared 0 = .ok (.aload_n 0, 1) := by decide +kernel
theorem dX9_wantCompared_1 : decode cX9_wantCompared 1 = .ok (.invokevirtual 194, 3) := by decide +kernel
theorem dX9_wantCompared_4 : decode cX9_wantCompared 4 = .ok (.aload_n 0, 1) := by decide +kernel
theorem dX9_wantCompared_5 : decode cX9_wantCompared 5 = .ok (.getfield 145, 3) := by decide +kernel
theorem dX9_wantCompared_8 : decode cX9_wantCompared 8 = .ok (.istore_n 1, 1) := by decide +kernel
theorem dX9_wantCompared_9 : decode cX9_wantCompared 9 = .ok (.aload_n 0, 1) := by decide +kernel
theorem dX9_wantCompared_10 : decode cX9_wantCompared 10 = .ok (.aload_n 0, 1) := by decide +kernel
theorem dX9_wantCompared_11 : decode cX9_wantCompared 11 = .ok (.getfield 187, 3) := by decide +kernel
theorem dX9_wantCompared_14 : decode cX9_wantCompared 14 = .ok (.ifCond .eq 34, 3) := by decide +kernel
theorem dX9_wantCompared_17 : decode cX9_wantCompared 17 = .ok (.aload_n 0, 1) := by decide +kernel
theorem dX9_wantCompared_18 : decode cX9_wantCompared 18 = .ok (.bipush 60, 2) := by decide +kernel
theorem dX9_wantCompared_20 : decode cX9_wantCompared 20 = .ok (.invokevirtual 197, 3) := by decide +kernel
theorem dX9_wantCompared_23 : decode cX9_wantCompared 23 = .ok (.ifCond .ne 21, 3) := by decide +kernel
theorem dX9_wantCompared_26 : decode cX9_wantCompared 26 = .ok (.aload_n 0, 1) := by decide +kernel
theorem dX9_wantCompared_27 : decode cX9_wantCompared 27 = .ok (.bipush 61, 2) := by decide +kernel
theorem dX9_wantCompared_29 : decode cX9_wantCompared 29 = .ok (.invokevirtual 197, 3) := by decide +kernel
theorem dX9_wantCompared_32 : decode cX9_wantCompared 32 = .ok (.ifCond .ne 12, 3) := by decide +kernel
theorem dX9_wantCompared_35 : decode cX9_wantCompared 35 = .ok (.aload_n 0, 1) := by decide +kernel
theorem dX9_wantCompared_36 : decode cX9_wantCompared 36 = .ok (.bipush 62, 2) := by decide +kernel
theorem dX9_wantCompared_38 : decode cX9_wantCompared 38 = .ok (.invokevirtual 197, 3) := by decide +kernel
theorem dX9_wantCompared_41 : decode cX9_wantCompared 41 = .ok (.ifCond .eq 7, 3) := by decide +kernel
theorem dX9_wantCompared_44 : decode cX9_wantCompared 44 = .ok (.iconst 1, 1) := by decide +kernel
theorem dX9_wantCompared_45 : decode cX9_wantCompared 45 = .ok (.goto 4, 3) := by decide +kernel
theorem dX9_wantCompared_48 : decode cX9_wantCompared 48 = .ok (.iconst 0, 1) := by decide +kernel
theorem dX9_wantCompared_49 : decode cX9_wantCompared 49 = .ok (.putfield 187, 3) := by decide +kernel
theorem dX9_wantCompared_52 : decode cX9_wantCompared 52 = .ok (.aload_n 0, 1) := by decide +kernel
theorem dX9_wantCompared_53 : decode cX9_wantCompared 53 = .ok (.getfield 187, 3) := by decide +kernel
theorem dX9_wantCompared_56 : decode cX9_wantCompared 56 = .ok (.ifCond .eq 12, 3) := by decide +kernel
theorem dX9_wantCompared_59 : decode cX9_wantCompared 59 = .ok (.aload_n 0, 1) := by decide +kernel
theorem dX9_wantCompared_60 : decode cX9_wantCompared 60 = .ok (.iload_n 1, 1) := by decide +kernel
theorem dX9_wantCompared_61 : decode cX9_wantCompared 61 = .ok (.invokevirtual 179, 3) := by decide +kernel
theorem dX9_wantCompared_64 : decode cX9_wantCompared 64 = .ok (.aload_n 0, 1) := by decide +kernel
theorem dX9_wantCompared_65 : decode cX9_wantCompared 65 = .ok (.invokevirtual 191, 3) := by decide +kernel
theorem dX9_wantCompared_68 : decode cX9_wantCompared 68 = .ok (.aload_n 0, 1) := by decide +kernel
theorem dX9_wantCompared_69 : decode cX9_wantCompared 69 = .ok (.invokevirtual 194, 3) := by decide +kernel
theorem dX9_wantCompared_72 : decode cX9_wantCompared 72 = .ok (.aload_n 0, 1) := by decide +kernel
theorem dX9_wantCompared_73 : decode cX9_wantCompared 73 = .ok (.ldc 200, 2) := by decide +kernel
theorem dX9_wantCompared_75 : decode cX9_wantCompared 75 = .ok (.invokevirtual 201, 3) := by decide +kernel
theorem dX9_wantCompared_78 : decode cX9_wantCompared 78 = .ok (.return_, 1) := by decide +kernel
theorem dX9_wantCond_0 : decode cX9_wantCond 0 = .ok (.aload_n 0, 1) := by decide +kernel
theorem dX9_wantCond_1 : decode cX9_wantCond 1 = .ok (.iconst 0, 1) := by decide +kernel
theorem dX9_wantCond_2 : decode cX9_wantCond 2 = .ok (.putfield 173, 3) := by decide +kernel
theorem dX9_wantCond_5 : decode cX9_wantCond 5 = .ok (.aload_n 0, 1) := by decide +kernel
theorem dX9_wantCond_6 : decode cX9_wantCond 6 = .ok (.iconst 0, 1) := by decide +kernel
theorem dX9_wantCond_7 : decode cX9_wantCond 7 = .ok (.putfield 204, 3) := by decide +kernel
theorem dX9_wantCond_10 : decode cX9_wantCond 10 = .ok (.iconst 1, 1) := by decide +kernel
theorem dX9_wantCond_11 : decode cX9_wantCond 11 = .ok (.istore 7, 2) := by decide +kernel
theorem dX9_wantCond_13 : decode cX9_wantCond 13 = .ok (.iconst 1, 1) := by decide +kernel
theorem dX9_wantCond_14 : decode cX9_wantCond 14 = .ok (.istore 8, 2) := by decide +kernel
theorem dX9_wantCond_16 : decode cX9_wantCond 16 = .ok (.aload_n 0, 1) := by decide +kernel
theorem dX9_wantCond_17 : decode cX9_wantCond 17 = .ok (.getfield 187, 3) := by decide +kernel
theorem dX9_wantCond_20 : decode cX9_wantCond 20 = .ok (.ifCond .eq 265, 3) := by decide +kernel
theorem dX9_wantCond_23 : decode cX9_wantCond 23 = .ok (.iload 8, 2) := by decide +kernel
theorem dX9_wantCond_25 : decode cX9_wantCond 25 = .ok (.ifCond .eq 260, 3) := by decide +kernel
theorem dX9_wantCond_28 : decode cX9_wantCond 28 = .ok (.iload 7, 2) := by decide +kernel
theorem dX9_wantCond_30 : decode cX9_wantCond 30 = .ok (.ifCond .eq 24, 3) := by decide +kernel
theorem dX9_wantCond_33 : decode cX9_wantCond 33 = .ok (.aload_n 0, 1) := by decide +kernel
theorem dX9_wantCond_34 : decode cX9_wantCond 34 = .ok (.lload_n 1, 1) := by decide +kernel
theorem dX9_wantCond_35 : decode cX9_wantCond 35 = .ok (.invokevirtual 156, 3) := by decide +kernel
theorem dX9_wantCond_38 : decode cX9_wantCond 38 = .ok (.ifCond .eq 16, 3) := by decide +kernel
theorem dX9_wantCond_41 : decode cX9_wantCond 41 = .ok (.aload_n 0, 1) := by decide +kernel
theorem dX9_wantCond_42 : decode cX9_wantCond 42 = .ok (.ldc 200, 2) := by decide +kernel
theorem dX9_wantCond_44 : decode cX9_wantCond 44 = .ok (.invokevirtual 207, 3) := by decide +kernel
theorem dX9_wantCond_47 : decode cX9_wantCond 47 = .ok (.aload_n 0, 1) := by decide +kernel
theorem dX9_wantCond_48 : decode cX9_wantCond 48 = .ok (.invokevirtual 191, 3) := by decide +kernel
theorem dX9_wantCond_51 : decode cX9_wantCond 51 = .ok (.goto (-35), 3) := by decide +kernel
theorem dX9_wantCond_54 : decode cX9_wantCond 54 = .ok (.iload 7, 2) := by decide +kernel
theorem dX9_wantCond_56 : decode cX9_wantCond 56 = .ok (.ifCond .eq 59, 3) := by decide +kernel
theorem dX9_wantCond_59 : decode cX9_wantCond 59 = .ok (.aload_n 0, 1) := by decide +kernel
theorem dX9_wantCond_60 : decode cX9_wantCond 60 = .ok (.bipush 40, 2) := by decide +kernel
theorem dX9_wantCond_62 : decode cX9_wantCond 62 = .ok (.invokevirtual 197, 3) := by decide +kernel
theorem dX9_wantCond_65 : decode cX9_wantCond 65 = .ok (.ifCond .eq 50, 3) := by decide +kernel
theorem dX9_wantCond_68 : decode cX9_wantCond 68 = .ok (.aload_n 0, 1) := by decide +kernel
theorem dX9_wantCond_69 : decode cX9_wantCond 69 = .ok (.aload_n 0, 1) := by decide +kernel
theorem dX9_wantCond_70 : decode cX9_wantCond 70 = .ok (.getfield 204, 3) := by decide +kernel
theorem dX9_wantCond_73 : decode cX9_wantCond 73 = .ok (.iconst 3, 1) := by decide +kernel
theorem dX9_wantCond_74 : decode cX9_wantCond 74 = .ok (.if_icmp .ge 7, 3) := by decide +kernel
theorem dX9_wantCond_77 : decode cX9_wantCond 77 = .ok (.iconst 1, 1) := by decide +kernel
theorem dX9_wantCond_78 : decode cX9_wantCond 78 = .ok (.goto 4, 3) := by decide +kernel
theorem dX9_wantCond_81 : decode cX9_wantCond 81 = .ok (.iconst 0, 1) := by decide +kernel
theorem dX9_wantCond_82 : decode cX9_wantCond 82 = .ok (.putfield 187, 3) := by decide +kernel
theorem dX9_wantCond_85 : decode cX9_wantCond 85 = .ok (.aload_n 0, 1) := by decide +kernel
theorem dX9_wantCond_86 : decode cX9_wantCond 86 = .ok (.getfield 187, 3) := by decide +kernel
theorem dX9_wantCond_89 : decode cX9_wantCond 89 = .ok (.ifCond .eq (-73), 3) := by decide +kernel
theorem dX9_wantCond_92 : decode cX9_wantCond 92 = .ok (.aload_n 0, 1) := by decide +kernel
theorem dX9_wantCond_93 : decode cX9_wantCond 93 = .ok (.dup, 1) := by decide +kernel
theorem dX9_wantCond_94 : decode cX9_wantCond 94 = .ok (.getfield 204, 3) := by decide +kernel
theorem dX9_wantCond_97 : decode cX9_wantCond 97 = .ok (.iconst 1, 1) := by decide +kernel
theorem dX9_wantCond_98 : decode cX9_wantCond 98 = .ok (.iadd, 1) := by decide +kernel
theorem dX9_wantCond_99 : decode cX9_wantCond 99 = .ok (.putfield 204, 3) := by decide +kernel
theorem dX9_wantCond_102 : decode cX9_wantCond 102 = .ok (.aload_n 0, 1) := by decide +kernel
theorem dX9_wantCond_103 : decode cX9_wantCond 103 = .ok (.ldc 210, 2) := by decide +kernel
theorem dX9_wantCond_105 : decode cX9_wantCond 105 = .ok (.invokevirtual 207, 3) := by decide +kernel
theorem dX9_wantCond_108 : decode cX9_wantCond 108 = .ok (.aload_n 0, 1) := by decide +kernel
theorem dX9_wantCond_109 : decode cX9_wantCond 109 = .ok (.invokevirtual 191, 3) := by decide +kernel
theorem dX9_wantCond_112 : decode cX9_wantCond 112 = .ok (.goto (-96), 3) := by decide +kernel
theorem dX9_wantCond_115 : decode cX9_wantCond 115 = .ok (.iload 7, 2) := by decide +kernel
theorem dX9_wantCond_117 : decode cX9_wantCond 117 = .ok (.ifCond .eq 13, 3) := by decide +kernel
theorem dX9_wantCond_120 : decode cX9_wantCond 120 = .ok (.aload_n 0, 1) := by decide +kernel
theorem dX9_wantCond_121 : decode cX9_wantCond 121 = .ok (.invokevirtual 211, 3) := by decide +kernel
theorem dX9_wantCond_124 : decode cX9_wantCond 124 = .ok (.iconst 0, 1) := by decide +kernel
theorem dX9_wantCond_125 : decode cX9_wantCond 125 = .ok (.istore 7, 2) := by decide +kernel
theorem dX9_wantCond_127 : decode cX9_wantCond 127 = .ok (.goto (-111), 3) := by decide +kernel
theorem dX9_wantCond_130 : decode cX9_wantCond 130 = .ok (.aload_n 0, 1) := by decide +kernel
theorem dX9_wantCond_131 : decode cX9_wantCond 131 = .ok (.lload_n 3, 1) := by decide +kernel
theorem dX9_wantCond_132 : decode cX9_wantCond 132 = .ok (.invokevirtual 156, 3) := by decide +kernel
theorem dX9_wantCond_135 : decode cX9_wantCond 135 = .ok (.ifCond .ne 12, 3) := by decide +kernel
theorem dX9_wantCond_138 : decode cX9_wantCond 138 = .ok (.aload_n 0, 1) := by decide +kernel
theorem dX9_wantCond_139 : decode cX9_wantCond 139 = .ok (.lload 5, 2) := by decide +kernel
theorem dX9_wantCond_141 : decode cX9_wantCond 141 = .ok (.invokevirtual 156, 3) := by decide +kernel
theorem dX9_wantCond_144 : decode cX9_wantCond 144 = .ok (.ifCond .eq 53, 3) := by decide +kernel
theorem dX9_wantCond_147 : decode cX9_wantCond 147 = .ok (.aload_n 0, 1) := by decide +kernel
theorem dX9_wantCond_148 : decode cX9_wantCond 148 = .ok (.ldc 214, 2) := by decide +kernel
theorem dX9_wantCond_150 : decode cX9_wantCond 150 = .ok (.invokevirtual 201, 3) := by decide +kernel
theorem dX9_wantCond_153 : decode cX9_wantCond 153 = .ok (.aload_n 0, 1) := by decide +kernel
theorem dX9_wantCond_154 : decode cX9_wantCond 154 = .ok (.lload_n 3, 1) := by decide +kernel
theorem dX9_wantCond_155 : decode cX9_wantCond 155 = .ok (.invokevirtual 156, 3) := by decide +kernel
theorem dX9_wantCond_158 : decode cX9_wantCond 158 = .ok (.istore 9, 2) := by decide +kernel
theorem dX9_wantCond_160 : decode cX9_wantCond 160 = .ok (.iload 9, 2) := by decide +kernel
theorem dX9_wantCond_162 : decode cX9_wantCond 162 = .ok (.ifCond .ne 9, 3) := by decide +kernel
theorem dX9_wantCond_165 : decode cX9_wantCond 165 = .ok (.aload_n 0, 1) := by decide +kernel
theorem dX9_wantCond_166 : decode cX9_wantCond 166 = .ok (.ldc 215, 2) := by decide +kernel
theorem dX9_wantCond_168 : decode cX9_wantCond 168 = .ok (.invokevirtual 201, 3) := by decide +kernel
theorem dX9_wantCond_171 : decode cX9_wantCond 171 = .ok (.aload_n 0, 1) := by decide +kernel
theorem dX9_wantCond_172 : decode cX9_wantCond 172 = .ok (.iload 9, 2) := by decide +kernel
theorem dX9_wantCond_174 : decode cX9_wantCond 174 = .ok (.ifCond .eq 8, 3) := by decide +kernel
theorem dX9_wantCond_177 : decode cX9_wantCond 177 = .ok (.ldc 214, 2) := by decide +kernel
theorem dX9_wantCond_179 : decode cX9_wantCond 179 = .ok (.goto 5, 3) := by decide +kernel
theorem dX9_wantCond_182 : decode cX9_wantCond 182 = .ok (.ldc 215, 2) := by decide +kernel
theorem dX9_wantCond_184 : decode cX9_wantCond 184 = .ok (.invokevirtual 207, 3) := by decide +kernel
theorem dX9_wantCond_187 : decode cX9_wantCond 187 = .ok (.aload_n 0, 1) := by decide +kernel
theorem dX9_wantCond_188 : decode cX9_wantCond 188 = .ok (.invokevirtual 191, 3) := by decide +kernel
theorem dX9_wantCond_191 : decode cX9_wantCond 191 = .ok (.iconst 1, 1) := by decide +kernel
theorem dX9_wantCond_192 : decode cX9_wantCond 192 = .ok (.istore 7, 2) := by decide +kernel
theorem dX9_wantCond_194 : decode cX9_wantCond 194 = .ok (.goto (-178), 3) := by decide +kernel
theorem dX9_wantCond_197 : decode cX9_wantCond 197 = .ok (.aload_n 0, 1) := by decide +kernel
theorem dX9_wantCond_198 : decode cX9_wantCond 198 = .ok (.ldc 214, 2) := by decide +kernel
theorem dX9_wantCond_200 : decode cX9_wantCond 200 = .ok (.invokevirtual 201, 3) := by decide +kernel
theorem dX9_wantCond_203 : decode cX9_wantCond 203 = .ok (.aload_n 0, 1) := by decide +kernel
theorem dX9_wantCond_204 : decode cX9_wantCond 204 = .ok (.ldc 215, 2) := by decide +kernel
theorem dX9_wantCond_206 : decode cX9_wantCond 206 = .ok (.invokevirtual 201, 3) := by decide +kernel
theorem dX9_wantCond_209 : decode cX9_wantCond 209 = .ok (.aload_n 0, 1) := by decide +kernel
theorem dX9_wantCond_210 : decode cX9_wantCond 210 = .ok (.ldc 210, 2) := by decide +kernel
theorem dX9_wantCond_212 : decode cX9_wantCond 212 = .ok (.invokevirtual 176, 3) := by decide +kernel
theorem dX9_wantCond_215 : decode cX9_wantCond 215 = .ok (.istore 8, 2) := by decide +kernel
theorem dX9_wantCond_217 : decode cX9_wantCond 217 = .ok (.aload_n 0, 1) := by decide +kernel
theorem dX9_wantCond_218 : decode cX9_wantCond 218 = .ok (.iload 8, 2) := by decide +kernel
theorem dX9_wantCond_220 : decode cX9_wantCond 220 = .ok (.ifCond .eq 12, 3) := by decide +kernel
theorem dX9_wantCond_223 : decode cX9_wantCond 223 = .ok (.aload_n 0, 1) := by decide +kernel
theorem dX9_wantCond_224 : decode cX9_wantCond 224 = .ok (.bipush 41, 2) := by decide +kernel
theorem dX9_wantCond_226 : decode cX9_wantCond 226 = .ok (.invokevirtual 197, 3) := by decide +kernel
theorem dX9_wantCond_229 : decode cX9_wantCond 229 = .ok (.ifCond .eq 7, 3) := by decide +kernel
theorem dX9_wantCond_232 : decode cX9_wantCond 232 = .ok (.iconst 1, 1) := by decide +kernel
theorem dX9_wantCond_233 : decode cX9_wantCond 233 = .ok (.goto 4, 3) := by decide +kernel
theorem dX9_wantCond_236 : decode cX9_wantCond 236 = .ok (.iconst 0, 1) := by decide +kernel
theorem dX9_wantCond_237 : decode cX9_wantCond 237 = .ok (.putfield 187, 3) := by decide +kernel
theorem dX9_wantCond_240 : decode cX9_wantCond 240 = .ok (.aload_n 0, 1) := by decide +kernel
theorem dX9_wantCond_241 : decode cX9_wantCond 241 = .ok (.getfield 187, 3) := by decide +kernel
theorem dX9_wantCond_244 : decode cX9_wantCond 244 = .ok (.ifCond .eq (-228), 3) := by decide +kernel
theorem dX9_wantCond_247 : decode cX9_wantCond 247 = .ok (.iload 8, 2) := by decide +kernel
theorem dX9_wantCond_249 : decode cX9_wantCond 249 = .ok (.ifCond .eq (-233), 3) := by decide +kernel
theorem dX9_wantCond_252 : decode cX9_wantCond 252 = .ok (.aload_n 0, 1) := by decide +kernel
theorem dX9_wantCond_253 : decode cX9_wantCond 253 = .ok (.dup, 1) := by decide +kernel
theorem dX9_wantCond_254 : decode cX9_wantCond 254 = .ok (.getfield 173, 3) := by decide +kernel
theorem dX9_wantCond_257 : decode cX9_wantCond 257 = .ok (.iconst 1, 1) := by decide +kernel
theorem dX9_wantCond_258 : decode cX9_wantCond 258 = .ok (.isub, 1) := by decide +kernel
theorem dX9_wantCond_259 : decode cX9_wantCond 259 = .ok (.putfield 173, 3) := by decide +kernel
theorem dX9_wantCond_262 : decode cX9_wantCond 262 = .ok (.aload_n 0, 1) := by decide +kernel
theorem dX9_wantCond_263 : decode cX9_wantCond 263 = .ok (.dup, 1) := by decide +kernel
theorem dX9_wantCond_264 : decode cX9_wantCond 264 = .ok (.getfield 204, 3) := by decide +kernel
theorem dX9_wantCond_267 : decode cX9_wantCond 267 = .ok (.iconst 1, 1) := by decide +kernel
theorem dX9_wantCond_268 : decode cX9_wantCond 268 = .ok (.isub, 1) := by decide +kernel
theorem dX9_wantCond_269 : decode cX9_wantCond 269 = .ok (.putfield 204, 3) := by decide +kernel
theorem dX9_wantCond_272 : decode cX9_wantCond 272 = .ok (.aload_n 0, 1) := by decide +kernel
theorem dX9_wantCond_273 : decode cX9_wantCond 273 = .ok (.invokevirtual 191, 3) := by decide +kernel
theorem dX9_wantCond_276 : decode cX9_wantCond 276 = .ok (.aload_n 0, 1) := by decide +kernel
theorem dX9_wantCond_277 : decode cX9_wantCond 277 = .ok (.ldc 200, 2) := by decide +kernel
theorem dX9_wantCond_279 : decode cX9_wantCond 279 = .ok (.invokevirtual 201, 3) := by decide +kernel
theorem dX9_wantCond_282 : decode cX9_wantCond 282 = .ok (.goto (-266), 3) := by decide +kernel
theorem dX9_wantCond_285 : decode cX9_wantCond 285 = .ok (.return_, 1) := by decide +kernel
theorem dX9_isSo_0 : decode cX9_isSo 0 = .ok (.iconst 0, 1) := by decide +kernel
theorem dX9_isSo_1 : decode cX9_isSo 1 = .ok (.istore 4, 2) := by decide +kernel
theorem dX9_isSo_3 : decode cX9_isSo 3 = .ok (.iload_n 2, 1) := by decide +kernel
theorem dX9_isSo_4 : decode cX9_isSo 4 = .ok (.istore 5, 2) := by decide +kernel
theorem dX9_isSo_6 : decode cX9_isSo 6 = .ok (.iload 5, 2) := by decide +kernel
theorem dX9_isSo_8 : decode cX9_isSo 8 = .ok (.iload_n 3, 1) := by decide +kernel
theorem dX9_isSo_9 : decode cX9_isSo 9 = .ok (.if_icmp .ge 285, 3) := by decide +kernel
theorem dX9_isSo_12 : decode cX9_isSo 12 = .ok (.aload_n 1, 1) := by decide +kernel
theorem dX9_isSo_13 : decode cX9_isSo 13 = .ok (.iload 5, 2) := by decide +kernel
theorem dX9_isSo_15 : decode cX9_isSo 15 = .ok (.iaload, 1) := by decide +kernel
theorem dX9_isSo_16 : decode cX9_isSo 16 = .ok (.istore 6, 2) := by decide +kernel
theorem dX9_isSo_18 : decode cX9_isSo 18 = .ok (.iload 6, 2) := by decide +kernel
theorem dX9_isSo_20 : decode cX9_isSo 20 = .ok (.ldc 200, 2) := by decide +kernel
theorem dX9_isSo_22 : decode cX9_isSo 22 = .ok (.if_icmp .ne 32, 3) := by decide +kernel
theorem dX9_isSo_25 : decode cX9_isSo 25 = .ok (.aload_n 0, 1) := by decide +kernel
theorem dX9_isSo_26 : decode cX9_isSo 26 = .ok (.getfield 53, 3) := by decide +kernel
theorem dX9_isSo_29 : decode cX9_isSo 29 = .ok (.iload 4, 2) := by decide +kernel
theorem dX9_isSo_31 : decode cX9_isSo 31 = .ok (.iconst 1, 1) := by decide +kernel
theorem dX9_isSo_32 : decode cX9_isSo 32 = .ok (.isub, 1) := by decide +kernel
theorem dX9_isSo_33 : decode cX9_isSo 33 = .ok (.aload_n 0, 1) := by decide +kernel
theorem dX9_isSo_34 : decode cX9_isSo 34 = .ok (.getfield 53, 3) := by decide +kernel
theorem dX9_isSo_37 : decode cX9_isSo 37 = .ok (.iload 4, 2) := by decide +kernel
theorem dX9_isSo_39 : decode cX9_isSo 39 = .ok (.iconst 1, 1) := by decide +kernel
theorem dX9_isSo_40 : decode cX9_isSo 40 = .ok (.isub, 1) := by decide +kernel
theorem dX9_isSo_41 : decode cX9_isSo 41 = .ok (.baload, 1) := by decide +kernel
theorem dX9_isSo_42 : decode cX9_isSo 42 = .ok (.ifCond .ne 7, 3) := by decide +kernel
theorem dX9_isSo_45 : decode cX9_isSo 45 = .ok (.iconst 1, 1) := by decide +kernel
theorem dX9_isSo_46 : decode cX9_isSo 46 = .ok (.goto 4, 3) := by decide +kernel
theorem dX9_isSo_49 : decode cX9_isSo 49 = .ok (.iconst 0, 1) := by decide +kernel
theorem dX9_isSo_50 : decode cX9_isSo 50 = .ok (.bastore, 1) := by decide +kernel
theorem dX9_isSo_51 : decode cX9_isSo 51 = .ok (.goto 237, 3) := by decide +kernel
theorem dX9_isSo_54 : decode cX9_isSo 54 = .ok (.iload 6, 2) := by decide +kernel
theorem dX9_isSo_56 : decode cX9_isSo 56 = .ok (.ldc 214, 2) := by decide +kernel
theorem dX9_isSo_58 : decode cX9_isSo 58 = .ok (.if_icmp .eq 10, 3) := by decide +kernel
theorem dX9_isSo_61 : decode cX9_isSo 61 = .ok (.iload 6, 2) := by decide +kernel
theorem dX9_isSo_63 : decode cX9_isSo 63 = .ok (.ldc 215, 2) := by decide +kernel
theorem dX9_isSo_65 : decode cX9_isSo 65 = .ok (.if_icmp .ne 82, 3) := by decide +kernel
theorem dX9_isSo_68 : decode cX9_isSo 68 = .ok (.iinc 4 (-1), 3) := by decide +kernel
theorem dX9_isSo_71 : decode cX9_isSo 71 = .ok (.aload_n 0, 1) := by decide +kernel
theorem dX9_isSo_72 : decode cX9_isSo 72 = .ok (.getfield 53, 3) := by decide +kernel
theorem dX9_isSo_75 : decode cX9_isSo 75 = .ok (.iload 4, 2) := by decide +kernel
theorem dX9_isSo_77 : decode cX9_isSo 77 = .ok (.iconst 1, 1) := by decide +kernel
theorem dX9_isSo_78 : decode cX9_isSo 78 = .ok (.isub, 1) := by decide +kernel
theorem dX9_isSo_79 : decode cX9_isSo 79 = .ok (.iload 6, 2) := by decide +kernel
theorem dX9_isSo_81 : decode cX9_isSo 81 = .ok (.ldc 214, 2) := by decide +kernel
theorem dX9_isSo_83 : decode cX9_isSo 83 = .ok (.if_icmp .ne 33, 3) := by decide +kernel
theorem dX9_isSo_86 : decode cX9_isSo 86 = .ok (.aload_n 0, 1) := by decide +kernel
theorem dX9_isSo_87 : decode cX9_isSo 87 = .ok (.getfield 53, 3) := by decide +kernel
theorem dX9_isSo_90 : decode cX9_isSo 90 = .ok (.iload 4, 2) := by decide +kernel
theorem dX9_isSo_92 : decode cX9_isSo 92 = .ok (.iconst 1, 1) := by decide +kernel
theorem dX9_isSo_93 : decode cX9_isSo 93 = .ok (.isub, 1) := by decide +kernel
theorem dX9_isSo_94 : decode cX9_isSo 94 = .ok (.baload, 1) := by decide +kernel
theorem dX9_isSo_95 : decode cX9_isSo 95 = .ok (.ifCond .eq 17, 3) := by decide +kernel
theorem dX9_isSo_98 : decode cX9_isSo 98 = .ok (.aload_n 0, 1) := by decide +kernel
theorem dX9_isSo_99 : decode cX9_isSo 99 = .ok (.getfield 53, 3) := by decide +kernel
theorem dX9_isSo_102 : decode cX9_isSo 102 = .ok (.iload 4, 2) := by decide +kernel
theorem dX9_isSo_104 : decode cX9_isSo 104 = .ok (.baload, 1) := by decide +kernel
theorem dX9_isSo_105 : decode cX9_isSo 105 = .ok (.ifCond .eq 7, 3) := by decide +kernel
theorem dX9_isSo_108 : decode cX9_isSo 108 = .ok (.iconst 1, 1) := by decide +kernel
theorem dX9_isSo_109 : decode cX9_isSo 109 = .ok (.goto 34, 3) := by decide +kernel
theorem dX9_isSo_112 : decode cX9_isSo 112 = .ok (.iconst 0, 1) := by decide +kernel
theorem dX9_isSo_113 : decode cX9_isSo 113 = .ok (.goto 30, 3) := by decide +kernel
theorem dX9_isSo_116 : decode cX9_isSo 116 = .ok (.aload_n 0, 1) := by decide +kernel
theorem dX9_isSo_117 : decode cX9_isSo 117 = .ok (.getfield 53, 3) := by decide +kernel
theorem dX9_isSo_120 : decode cX9_isSo 120 = .ok (.iload 4, 2) := by decide +kernel
theorem dX9_isSo_122 : decode cX9_isSo 122 = .ok (.iconst 1, 1) := by decide +kernel
theorem dX9_isSo_123 : decode cX9_isSo 123 = .ok (.isub, 1) := by decide +kernel
theorem dX9_isSo_124 : decode cX9_isSo 124 = .ok (.baload, 1) := by decide +kernel
theorem dX9_isSo_125 : decode cX9_isSo 125 = .ok (.ifCond .ne 13, 3) := by decide +kernel
theorem dX9_isSo_128 : decode cX9_isSo 128 = .ok (.aload_n 0, 1) := by decide +kernel
theorem dX9_isSo_129 : decode cX9_isSo 129 = .ok (.getfield 53, 3) := by decide +kernel
theorem dX9_isSo_132 : decode cX9_isSo 132 = .ok (.iload 4, 2) := by decide +kernel
theorem dX9_isSo_134 : decode cX9_isSo 134 = .ok (.baload, 1) := by decide +kernel
theorem dX9_isSo_135 : decode cX9_isSo 135 = .ok (.ifCond .eq 7, 3) := by decide +kernel
theorem dX9_isSo_138 : decode cX9_isSo 138 = .ok (.iconst 1, 1) := by decide +kernel
theorem dX9_isSo_139 : decode cX9_isSo 139 = .ok (.goto 4, 3) := by decide +kernel
theorem dX9_isSo_142 : decode cX9_isSo 142 = .ok (.iconst 0, 1) := by decide +kernel
theorem dX9_isSo_143 : decode cX9_isSo 143 = .ok (.bastore, 1) := by decide +kernel
theorem dX9_isSo_144 : decode cX9_isSo 144 = .ok (.goto 144, 3) := by decide +kernel
theorem dX9_isSo_147 : decode cX9_isSo 147 = .ok (.iload 6, 2) := by decide +kernel
theorem dX9_isSo_149 : decode cX9_isSo 149 = .ok (.sipush 20000, 3) := by decide +kernel
theorem dX9_isSo_152 : decode cX9_isSo 152 = .ok (.if_icmp .lt 17, 3) := by decide +kernel
theorem dX9_isSo_155 : decode cX9_isSo 155 = .ok (.aload_n 0, 1) := by decide +kernel
theorem dX9_isSo_156 : decode cX9_isSo 156 = .ok (.getfield 44, 3) := by decide +kernel
theorem dX9_isSo_159 : decode cX9_isSo 159 = .ok (.iload 6, 2) := by decide +kernel
theorem dX9_isSo_161 : decode cX9_isSo 161 = .ok (.sipush 20000, 3) := by decide +kernel
theorem dX9_isSo_164 : decode cX9_isSo 164 = .ok (.isub, 1) := by decide +kernel
theorem dX9_isSo_165 : decode cX9_isSo 165 = .ok (.iaload, 1) := by decide +kernel
theorem dX9_isSo_166 : decode cX9_isSo 166 = .ok (.goto 5, 3) := by decide +kernel
theorem dX9_isSo_169 : decode cX9_isSo 169 = .ok (.iload 6, 2) := by decide +kernel
theorem dX9_isSo_171 : decode cX9_isSo 171 = .ok (.istore 7, 2) := by decide +kernel
theorem dX9_isSo_173 : decode cX9_isSo 173 = .ok (.aload_n 1, 1) := by decide +kernel
theorem dX9_isSo_174 : decode cX9_isSo 174 = .ok (.iload 5, 2) := by decide +kernel
theorem dX9_isSo_176 : decode cX9_isSo 176 = .ok (.iconst 2, 1) := by decide +kernel
theorem dX9_isSo_177 : decode cX9_isSo 177 = .ok (.iadd, 1) := by decide +kernel
theorem dX9_isSo_178 : decode cX9_isSo 178 = .ok (.iaload, 1) := by decide +kernel
theorem dX9_isSo_179 : decode cX9_isSo 179 = .ok (.sipush 20000, 3) := by decide +kernel
theorem dX9_isSo_182 : decode cX9_isSo 182 = .ok (.if_icmp .lt 21, 3) := by decide +kernel
theorem dX9_isSo_185 : decode cX9_isSo 185 = .ok (.aload_n 0, 1) := by decide +kernel
theorem dX9_isSo_186 : decode cX9_isSo 186 = .ok (.getfield 44, 3) := by decide +kernel
theorem dX9_isSo_189 : decode cX9_isSo 189 = .ok (.aload_n 1, 1) := by decide +kernel
theorem dX9_isSo_190 : decode cX9_isSo 190 = .ok (.iload 5, 2) := by decide +kernel
theorem dX9_isSo_192 : decode cX9_isSo 192 = .ok (.iconst 2, 1) := by decide +kernel
theorem dX9_isSo_193 : decode cX9_isSo 193 = .ok (.iadd, 1) := by decide +kernel
theorem dX9_isSo_194 : decode cX9_isSo 194 = .ok (.iaload, 1) := by decide +kernel
theorem dX9_isSo_195 : decode cX9_isSo 195 = .ok (.sipush 20000, 3) := by decide +kernel
theorem dX9_isSo_198 : decode cX9_isSo 198 = .ok (.isub, 1) := by decide +kernel
theorem dX9_isSo_199 : decode cX9_isSo 199 = .ok (.iaload, 1) := by decide +kernel
theorem dX9_isSo_200 : decode cX9_isSo 200 = .ok (.goto 9, 3) := by decide +kernel
theorem dX9_isSo_203 : decode cX9_isSo 203 = .ok (.aload_n 1, 1) := by decide +kernel
theorem dX9_isSo_204 : decode cX9_isSo 204 = .ok (.iload 5, 2) := by decide +kernel
theorem dX9_isSo_206 : decode cX9_isSo 206 = .ok (.iconst 2, 1) := by decide +kernel
theorem dX9_isSo_207 : decode cX9_isSo 207 = .ok (.iadd, 1) := by decide +kernel
theorem dX9_isSo_208 : decode cX9_isSo 208 = .ok (.iaload, 1) := by decide +kernel
theorem dX9_isSo_209 : decode cX9_isSo 209 = .ok (.istore 8, 2) := by decide +kernel
theorem dX9_isSo_211 : decode cX9_isSo 211 = .ok (.aload_n 0, 1) := by decide +kernel
theorem dX9_isSo_212 : decode cX9_isSo 212 = .ok (.getfield 53, 3) := by decide +kernel
theorem dX9_isSo_215 : decode cX9_isSo 215 = .ok (.iload 4, 2) := by decide +kernel
theorem dX9_isSo_217 : decode cX9_isSo 217 = .ok (.aload_n 1, 1) := by decide +kernel
theorem dX9_isSo_218 : decode cX9_isSo 218 = .ok (.iload 5, 2) := by decide +kernel
theorem dX9_isSo_220 : decode cX9_isSo 220 = .ok (.iconst 1, 1) := by decide +kernel
theorem dX9_isSo_221 : decode cX9_isSo 221 = .ok (.iadd, 1) := by decide +kernel
theorem dX9_isSo_222 : decode cX9_isSo 222 = .ok (.iaload, 1) := by decide +kernel
theorem dX9_isSo_223 : decode cX9_isSo 223 = .ok (.bipush 60, 2) := by decide +kernel
theorem dX9_isSo_225 : decode cX9_isSo 225 = .ok (.if_icmp .ne 18, 3) := by decide +kernel
theorem dX9_isSo_228 : decode cX9_isSo 228 = .ok (.iload 7, 2) := by decide +kernel
theorem dX9_isSo_230 : decode cX9_isSo 230 = .ok (.iload 8, 2) := by decide +kernel
theorem dX9_isSo_232 : decode cX9_isSo 232 = .ok (.if_icmp .ge 7, 3) := by decide +kernel
theorem dX9_isSo_235 : decode cX9_isSo 235 = .ok (.iconst 1, 1) := by decide +kernel
theorem dX9_isSo_236 : decode cX9_isSo 236 = .ok (.goto 45, 3) := by decide +kernel
theorem dX9_isSo_239 : decode cX9_isSo 239 = .ok (.iconst 0, 1) := by decide +kernel
theorem dX9_isSo_240 : decode cX9_isSo 240 = .ok (.goto 41, 3) := by decide +kernel
theorem dX9_isSo_243 : decode cX9_isSo 243 = .ok (.aload_n 1, 1) := by decide +kernel
theorem dX9_isSo_244 : decode cX9_isSo 244 = .ok (.iload 5, 2) := by decide +kernel
theorem dX9_isSo_246 : decode cX9_isSo 246 = .ok (.iconst 1, 1) := by decide +kernel
theorem dX9_isSo_247 : decode cX9_isSo 247 = .ok (.iadd, 1) := by decide +kernel
theorem dX9_isSo_248 : decode cX9_isSo 248 = .ok (.iaload, 1) := by decide +kernel
theorem dX9_isSo_249 : decode cX9_isSo 249 = .ok (.bipush 61, 2) := by decide +kernel
theorem dX9_isSo_251 : decode cX9_isSo 251 = .ok (.if_icmp .ne 18, 3) := by decide +kernel
theorem dX9_isSo_254 : decode cX9_isSo 254 = .ok (.iload 7, 2) := by decide +kernel
theorem dX9_isSo_256 : decode cX9_isSo 256 = .ok (.iload 8, 2) := by decide +kernel
theorem dX9_isSo_258 : decode cX9_isSo 258 = .ok (.if_icmp .ne 7, 3) := by decide +kernel
theorem dX9_isSo_261 : decode cX9_isSo 261 = .ok (.iconst 1, 1) := by decide +kernel
theorem dX9_isSo_262 : decode cX9_isSo 262 = .ok (.goto 19, 3) := by decide +kernel
theorem dX9_isSo_265 : decode cX9_isSo 265 = .ok (.iconst 0, 1) := by decide +kernel
theorem dX9_isSo_266 : decode cX9_isSo 266 = .ok (.goto 15, 3) := by decide +kernel
theorem dX9_isSo_269 : decode cX9_isSo 269 = .ok (.iload 7, 2) := by decide +kernel
theorem dX9_isSo_271 : decode cX9_isSo 271 = .ok (.iload 8, 2) := by decide +kernel
theorem dX9_isSo_273 : decode cX9_isSo 273 = .ok (.if_icmp .le 7, 3) := by decide +kernel
theorem dX9_isSo_276 : decode cX9_isSo 276 = .ok (.iconst 1, 1) := by decide +kernel
theorem dX9_isSo_277 : decode cX9_isSo 277 = .ok (.goto 4, 3) := by decide +kernel
theorem dX9_isSo_280 : decode cX9_isSo 280 = .ok (.iconst 0, 1) := by decide +kernel
theorem dX9_isSo_281 : decode cX9_isSo 281 = .ok (.bastore, 1) := by decide +kernel
theorem dX9_isSo_282 : decode cX9_isSo 282 = .ok (.iinc 4 1, 3) := by decide +kernel
theorem dX9_isSo_285 : decode cX9_isSo 285 = .ok (.iinc 5 2, 3) := by decide +kernel
theorem dX9_isSo_288 : decode cX9_isSo 288 = .ok (.iinc 5 1, 3) := by decide +kernel
theorem dX9_isSo_291 : decode cX9_isSo 291 = .ok (.goto (-285), 3) := by decide +kernel
theorem dX9_isSo_294 : decode cX9_isSo 294 = .ok (.iload 4, 2) := by decide +kernel
theorem dX9_isSo_296 : decode cX9_isSo 296 = .ok (.ifCond .eq 12, 3) := by decide +kernel
theorem dX9_isSo_299 : decode cX9_isSo 299 = .ok (.aload_n 0, 1) := by decide +kernel
theorem dX9_isSo_300 : decode cX9_isSo 300 = .ok (.getfield 53, 3) := by decide +kernel
theorem dX9_isSo_303 : decode cX9_isSo 303 = .ok (.iconst 0, 1) := by decide +kernel
theorem dX9_isSo_304 : decode cX9_isSo 304 = .ok (.baload, 1) := by decide +kernel
theorem dX9_isSo_305 : decode cX9_isSo 305 = .ok (.ifCond .eq 7, 3) := by decide +kernel
theorem dX9_isSo_308 : decode cX9_isSo 308 = .ok (.iconst 1, 1) := by decide +kernel
theorem dX9_isSo_309 : decode cX9_isSo 309 = .ok (.goto 4, 3) := by decide +kernel
theorem dX9_isSo_312 : decode cX9_isSo 312 = .ok (.iconst 0, 1) := by decide +kernel
theorem dX9_isSo_313 : decode cX9_isSo 313 = .ok (.ireturn, 1) := by decide +kernel
theorem dX9_rules_0 : decode cX9_rules 0 = .ok (.aload_n 0, 1) := by decide +kernel
theorem dX9_rules_1 : decode cX9_rules 1 = .ok (.iconst 0, 1) := by decide +kernel
theorem dX9_rules_2 : decode cX9_rules 2 = .ok (.putfield 121, 3) := by decide +kernel
theorem dX9_rules_5 : decode cX9_rules 5 = .ok (.aload_n 0, 1) := by decide +kernel
theorem dX9_rules_6 : decode cX9_rules 6 = .ok (.iconst 1, 1) := by decide +kernel
theorem dX9_rules_7 : decode cX9_rules 7 = .ok (.putfield 187, 3) := by decide +kernel
theorem dX9_rules_10 : decode cX9_rules 10 = .ok (.aload_n 0, 1) := by decide +kernel
theorem dX9_rules_11 : decode cX9_rules 11 = .ok (.iconst 0, 1) := by decide +kernel
theorem dX9_rules_12 : decode cX9_rules 12 = .ok (.putfield 170, 3) := by decide +kernel
theorem dX9_rules_15 : decode cX9_rules 15 = .ok (.iconst 0, 1) := by decide +kernel
theorem dX9_rules_16 : decode cX9_rules 16 = .ok (.istore_n 1, 1) := by decide +kernel
theorem dX9_rules_17 : decode cX9_rules 17 = .ok (.aload_n 0, 1) := by decide +kernel
theorem dX9_rules_18 : decode cX9_rules 18 = .ok (.invokevirtual 191, 3) := by decide +kernel
theorem dX9_rules_21 : decode cX9_rules 21 = .ok (.aload_n 0, 1) := by decide +kernel
theorem dX9_rules_22 : decode cX9_rules 22 = .ok (.getfield 187, 3) := by decide +kernel
theorem dX9_rules_25 : decode cX9_rules 25 = .ok (.ifCond .eq 172, 3) := by decide +kernel
theorem dX9_rules_28 : decode cX9_rules 28 = .ok (.aload_n 0, 1) := by decide +kernel
theorem dX9_rules_29 : decode cX9_rules 29 = .ok (.getfield 138, 3) := by decide +kernel
theorem dX9_rules_32 : decode cX9_rules 32 = .ok (.ifCond .eq 165, 3) := by decide +kernel
theorem dX9_rules_35 : decode cX9_rules 35 = .ok (.aload_n 0, 1) := by decide +kernel
theorem dX9_rules_36 : decode cX9_rules 36 = .ok (.ldc2_w 216, 3) := by decide +kernel
theorem dX9_rules_39 : decode cX9_rules 39 = .ok (.invokevirtual 156, 3) := by decide +kernel
theorem dX9_rules_42 : decode cX9_rules 42 = .ok (.istore_n 2, 1) := by decide +kernel
theorem dX9_rules_43 : decode cX9_rules 43 = .ok (.aload_n 0, 1) := by decide +kernel
theorem dX9_rules_44 : decode cX9_rules 44 = .ok (.iload_n 1, 1) := by decide +kernel
theorem dX9_rules_45 : decode cX9_rules 45 = .ok (.bipush 8, 2) := by decide +kernel
theorem dX9_rules_47 : decode cX9_rules 47 = .ok (.if_icmp .ge 21, 3) := by decide +kernel
theorem dX9_rules_50 : decode cX9_rules 50 = .ok (.iload_n 2, 1) := by decide +kernel
theorem dX9_rules_51 : decode cX9_rules 51 = .ok (.ifCond .ne 13, 3) := by decide +kernel
theorem dX9_rules_54 : decode cX9_rules 54 = .ok (.aload_n 0, 1) := by decide +kernel
theorem dX9_rules_55 : decode cX9_rules 55 = .ok (.ldc2_w 218, 3) := by decide +kernel
theorem dX9_rules_58 : decode cX9_rules 58 = .ok (.invokevirtual 156, 3) := by decide +kernel
theorem dX9_rules_61 : decode cX9_rules 61 = .ok (.ifCond .eq 7, 3) := by decide +kernel
theorem dX9_rules_64 : decode cX9_rules 64 = .ok (.iconst 1, 1) := by decide +kernel
theorem dX9_rules_65 : decode cX9_rules 65 = .ok (.goto 4, 3) := by decide +kernel
theorem dX9_rules_68 : decode cX9_rules 68 = .ok (.iconst 0, 1) := by decide +kernel
theorem dX9_rules_69 : decode cX9_rules 69 = .ok (.putfield 187, 3) := by decide +kernel
theorem dX9_rules_72 : decode cX9_rules 72 = .ok (.aload_n 0, 1) := by decide +kernel
theorem dX9_rules_73 : decode cX9_rules 73 = .ok (.getfield 187, 3) := by decide +kernel
theorem dX9_rules_76 : decode cX9_rules 76 = .ok (.ifCond .eq 107, 3) := by decide +kernel
theorem dX9_rules_79 : decode cX9_rules 79 = .ok (.aload_n 0, 1) := by decide +kernel
theorem dX9_rules_80 : decode cX9_rules 80 = .ok (.getfield 57, 3) := by decide +kernel
theorem dX9_rules_83 : decode cX9_rules 83 = .ok (.iconst 3, 1) := by decide +kernel
theorem dX9_rules_84 : decode cX9_rules 84 = .ok (.iload_n 1, 1) := by decide +kernel
theorem dX9_rules_85 : decode cX9_rules 85 = .ok (.imul, 1) := by decide +kernel
theorem dX9_rules_86 : decode cX9_rules 86 = .ok (.iload_n 2, 1) := by decide +kernel
theorem dX9_rules_87 : decode cX9_rules 87 = .ok (.ifCond .eq 7, 3) := by decide +kernel
theorem dX9_rules_90 : decode cX9_rules 90 = .ok (.iconst 1, 1) := by decide +kernel
theorem dX9_rules_91 : decode cX9_rules 91 = .ok (.goto 4, 3) := by decide +kernel
theorem dX9_rules_94 : decode cX9_rules 94 = .ok (.iconst 0, 1) := by decide +kernel
theorem dX9_rules_95 : decode cX9_rules 95 = .ok (.iastore, 1) := by decide +kernel
theorem dX9_rules_96 : decode cX9_rules 96 = .ok (.aload_n 0, 1) := by decide +kernel
theorem dX9_rules_97 : decode cX9_rules 97 = .ok (.getfield 57, 3) := by decide +kernel
theorem dX9_rules_100 : decode cX9_rules 100 = .ok (.iconst 3, 1) := by decide +kernel
theorem dX9_rules_101 : decode cX9_rules 101 = .ok (.iload_n 1, 1) := by decide +kernel
theorem dX9_rules_102 : decode cX9_rules 102 = .ok (.imul, 1) := by decide +kernel
theorem dX9_rules_103 : decode cX9_rules 103 = .ok (.iconst 1, 1) := by decide +kernel
theorem dX9_rules_104 : decode cX9_rules 104 = .ok (.iadd, 1) := by decide +kernel
theorem dX9_rules_105 : decode cX9_rules 105 = .ok (.aload_n 0, 1) := by decide +kernel
theorem dX9_rules_106 : decode cX9_rules 106 = .ok (.getfield 170, 3) := by decide +kernel
theorem dX9_rules_109 : decode cX9_rules 109 = .ok (.iastore, 1) := by decide +kernel
theorem dX9_rules_110 : decode cX9_rules 110 = .ok (.aload_n 0, 1) := by decide +kernel
theorem dX9_rules_111 : decode cX9_rules 111 = .ok (.invokevirtual 191, 3) := by decide +kernel
theorem dX9_rules_114 : decode cX9_rules 114 = .ok (.aload_n 0, 1) := by decide +kernel
theorem dX9_rules_115 : decode cX9_rules 115 = .ok (.ldc2_w 220, 3) := by decide +kernel
theorem dX9_rules_118 : decode cX9_rules 118 = .ok (.invokevirtual 156, 3) := by decide +kernel
theorem dX9_rules_121 : decode cX9_rules 121 = .ok (.ifCond .eq 20, 3) := by decide +kernel
theorem dX9_rules_124 : decode cX9_rules 124 = .ok (.aload_n 0, 1) := by decide +kernel
theorem dX9_rules_125 : decode cX9_rules 125 = .ok (.invokevirtual 191, 3) := by decide +kernel
theorem dX9_rules_128 : decode cX9_rules 128 = .ok (.aload_n 0, 1) := by decide +kernel
theorem dX9_rules_129 : decode cX9_rules 129 = .ok (.ldc2_w 222, 3) := by decide +kernel
theorem dX9_rules_132 : decode cX9_rules 132 = .ok (.ldc2_w 224, 3) := by decide +kernel
theorem dX9_rules_135 : decode cX9_rules 135 = .ok (.ldc2_w 226, 3) := by decide +kernel
theorem dX9_rules_138 : decode cX9_rules 138 = .ok (.invokevirtual 228, 3) := by decide +kernel
theorem dX9_rules_141 : decode cX9_rules 141 = .ok (.aload_n 0, 1) := by decide +kernel
theorem dX9_rules_142 : decode cX9_rules 142 = .ok (.getfield 57, 3) := by decide +kernel
theorem dX9_rules_145 : decode cX9_rules 145 = .ok (.iconst 3, 1) := by decide +kernel
theorem dX9_rules_146 : decode cX9_rules 146 = .ok (.iload_n 1, 1) := by decide +kernel
theorem dX9_rules_147 : decode cX9_rules 147 = .ok (.imul, 1) := by decide +kernel
theorem dX9_rules_148 : decode cX9_rules 148 = .ok (.iconst 2, 1) := by decide +kernel
theorem dX9_rules_149 : decode cX9_rules 149 = .ok (.iadd, 1) := by decide +kernel
theorem dX9_rules_150 : decode cX9_rules 150 = .ok (.aload_n 0, 1) := by decide +kernel
theorem dX9_rules_151 : decode cX9_rules 151 = .ok (.getfield 170, 3) := by decide +kernel
theorem dX9_rules_154 : decode cX9_rules 154 = .ok (.iastore, 1) := by decide +kernel
theorem dX9_rules_155 : decode cX9_rules 155 = .ok (.iinc 1 1, 3) := by decide +kernel
theorem dX9_rules_158 : decode cX9_rules 158 = .ok (.aload_n 0, 1) := by decide +kernel
theorem dX9_rules_159 : decode cX9_rules 159 = .ok (.aload_n 0, 1) := by decide +kernel
theorem dX9_rules_160 : decode cX9_rules 160 = .ok (.getfield 187, 3) := by decide +kernel
theorem dX9_rules_163 : decode cX9_rules 163 = .ok (.ifCond .eq 16, 3) := by decide +kernel
theorem dX9_rules_166 : decode cX9_rules 166 = .ok (.aload_n 0, 1) := by decide +kernel
theorem dX9_rules_167 : decode cX9_rules 167 = .ok (.bipush 59, 2) := by decide +kernel
theorem dX9_rules_169 : decode cX9_rules 169 = .ok (.invokevirtual 197, 3) := by decide +kernel
theorem dX9_rules_172 : decode cX9_rules 172 = .ok (.ifCond .eq 7, 3) := by decide +kernel
theorem dX9_rules_175 : decode cX9_rules 175 = .ok (.iconst 1, 1) := by decide +kernel
theorem dX9_rules_176 : decode cX9_rules 176 = .ok (.goto 4, 3) := by decide +kernel
theorem dX9_rules_179 : decode cX9_rules 179 = .ok (.iconst 0, 1) := by decide +kernel
theorem dX9_rules_180 : decode cX9_rules 180 = .ok (.putfield 187, 3) := by decide +kernel
theorem dX9_rules_183 : decode cX9_rules 183 = .ok (.aload_n 0, 1) := by decide +kernel
theorem dX9_rules_184 : decode cX9_rules 184 = .ok (.getfield 187, 3) := by decide +kernel
theorem dX9_rules_187 : decode cX9_rules 187 = .ok (.ifCond .eq 7, 3) := by decide +kernel
theorem dX9_rules_190 : decode cX9_rules 190 = .ok (.aload_n 0, 1) := by decide +kernel
theorem dX9_rules_191 : decode cX9_rules 191 = .ok (.invokevirtual 191, 3) := by decide +kernel
theorem dX9_rules_194 : decode cX9_rules 194 = .ok (.goto (-173), 3) := by decide +kernel
theorem dX9_rules_197 : decode cX9_rules 197 = .ok (.aload_n 0, 1) := by decide +kernel
theorem dX9_rules_198 : decode cX9_rules 198 = .ok (.iconst 0, 1) := by decide +kernel
theorem dX9_rules_199 : decode cX9_rules 199 = .ok (.putfield 116, 3) := by decide +kernel
theorem dX9_rules_202 : decode cX9_rules 202 = .ok (.aload_n 0, 1) := by decide +kernel
theorem dX9_rules_203 : decode cX9_rules 203 = .ok (.getfield 187, 3) := by decide +kernel
theorem dX9_rules_206 : decode cX9_rules 206 = .ok (.ifCond .ne 11, 3) := by decide +kernel
theorem dX9_rules_209 : decode cX9_rules 209 = .ok (.bipush (-100), 2) := by decide +kernel
theorem dX9_rules_211 : decode cX9_rules 211 = .ok (.aload_n 0, 1) := by decide +kernel
theorem dX9_rules_212 : decode cX9_rules 212 = .ok (.getfield 124, 3) := by decide +kernel
theorem dX9_rules_215 : decode cX9_rules 215 = .ok (.isub, 1) := by decide +kernel
theorem dX9_rules_216 : decode cX9_rules 216 = .ok (.ireturn, 1) := by decide +kernel
theorem dX9_rules_217 : decode cX9_rules 217 = .ok (.aload_n 0, 1) := by decide +kernel
theorem dX9_rules_218 : decode cX9_rules 218 = .ok (.iload_n 1, 1) := by decide +kernel
theorem dX9_rules_219 : decode cX9_rules 219 = .ok (.putfield 232, 3) := by decide +kernel
theorem dX9_rules_222 : decode cX9_rules 222 = .ok (.iconst 0, 1) := by decide +kernel
theorem dX9_rules_223 : decode cX9_rules 223 = .ok (.istore_n 2, 1) := by decide +kernel
theorem dX9_rules_224 : decode cX9_rules 224 = .ok (.iload_n 2, 1) := by decide +kernel
theorem dX9_rules_225 : decode cX9_rules 225 = .ok (.bipush 24, 2) := by decide +kernel
theorem dX9_rules_227 : decode cX9_rules 227 = .ok (.if_icmp .ge 21, 3) := by decide +kernel
theorem dX9_rules_230 : decode cX9_rules 230 = .ok (.aload_n 0, 1) := by decide +kernel
theorem dX9_rules_231 : decode cX9_rules 231 = .ok (.getfield 31, 3) := by decide +kernel
theorem dX9_rules_234 : decode cX9_rules 234 = .ok (.iload_n 2, 1) := by decide +kernel
theorem dX9_rules_235 : decode cX9_rules 235 = .ok (.aload_n 0, 1) := by decide +kernel
theorem dX9_rules_236 : decode cX9_rules 236 = .ok (.getfield 57, 3) := by decide +kernel
theorem dX9_rules_239 : decode cX9_rules 239 = .ok (.iload_n 2, 1) := by decide +kernel
theorem dX9_rules_240 : decode cX9_rules 240 = .ok (.iaload, 1) := by decide +kernel
theorem dX9_rules_241 : decode cX9_rules 241 = .ok (.iastore, 1) := by decide +kernel
theorem dX9_rules_242 : decode cX9_rules 242 = .ok (.iinc 2 1, 3) := by decide +kernel
theorem dX9_rules_245 : decode cX9_rules 245 = .ok (.goto (-21), 3) := by decide +kernel
theorem dX9_rules_248 : decode cX9_rules 248 = .ok (.iconst 0, 1) := by decide +kernel
theorem dX9_rules_249 : decode cX9_rules 249 = .ok (.istore_n 2, 1) := by decide +kernel
theorem dX9_rules_250 : decode cX9_rules 250 = .ok (.iload_n 2, 1) := by decide +kernel
theorem dX9_rules_251 : decode cX9_rules 251 = .ok (.aload_n 0, 1) := by decide +kernel
theorem dX9_rules_252 : decode cX9_rules 252 = .ok (.getfield 170, 3) := by decide +kernel
theorem dX9_rules_255 : decode cX9_rules 255 = .ok (.if_icmp .ge 21, 3) := by decide +kernel
theorem dX9_rules_258 : decode cX9_rules 258 = .ok (.aload_n 0, 1) := by decide +kernel
theorem dX9_rules_259 : decode cX9_rules 259 = .ok (.getfield 34, 3) := by decide +kernel
theorem dX9_rules_262 : decode cX9_rules 262 = .ok (.iload_n 2, 1) := by decide +kernel
theorem dX9_rules_263 : decode cX9_rules 263 = .ok (.aload_n 0, 1) := by decide +kernel
theorem dX9_rules_264 : decode cX9_rules 264 = .ok (.getfield 47, 3) := by decide +kernel
theorem dX9_rules_267 : decode cX9_rules 267 = .ok (.iload_n 2, 1) := by decide +kernel
theorem dX9_rules_268 : decode cX9_rules 268 = .ok (.iaload, 1) := by decide +kernel
theorem dX9_rules_269 : decode cX9_rules 269 = .ok (.iastore, 1) := by decide +kernel
theorem dX9_rules_270 : decode cX9_rules 270 = .ok (.iinc 2 1, 3) := by decide +kernel
theorem dX9_rules_273 : decode cX9_rules 273 = .ok (.goto (-23), 3) := by decide +kernel
theorem dX9_rules_276 : decode cX9_rules 276 = .ok (.aload_n 0, 1) := by decide +kernel
theorem dX9_rules_277 : decode cX9_rules 277 = .ok (.getfield 232, 3) := by decide +kernel
theorem dX9_rules_280 : decode cX9_rules 280 = .ok (.ireturn, 1) := by decide +kernel
theorem dX9_size_0 : decode cX9_size 0 = .ok (.iload_n 1, 1) := by decide +kernel
theorem dX9_size_1 : decode cX9_size 1 = .ok (.iconst 0, 1) := by decide +kernel
theorem dX9_size_2 : decode cX9_size 2 = .ok (.iconst 3, 1) := by decide +kernel
theorem dX9_size_3 : decode cX9_size 3 = .ok (.invokestatic 109, 3) := by decide +kernel
theorem dX9_size_6 : decode cX9_size 6 = .ok (.ifCond .eq 14, 3) := by decide +kernel
theorem dX9_size_9 : decode cX9_size 9 = .ok (.iload_n 2, 1) := by decide +kernel
theorem dX9_size_10 : decode cX9_size 10 = .ok (.bipush 10, 2) := by decide +kernel
theorem dX9_size_12 : decode cX9_size 12 = .ok (.bipush 99, 2) := by decide +kernel
theorem dX9_size_14 : decode cX9_size 14 = .ok (.invokestatic 109, 3) := by decide +kernel
theorem dX9_size_17 : decode cX9_size 17 = .ok (.ifCond .ne 5, 3) := by decide +kernel
theorem dX9_size_20 : decode cX9_size 20 = .ok (.iconst (-1), 1) := by decide +kernel
theorem dX9_size_21 : decode cX9_size 21 = .ok (.ireturn, 1) := by decide +kernel
theorem dX9_size_22 : decode cX9_size 22 = .ok (.aload_n 0, 1) := by decide +kernel
theorem dX9_size_23 : decode cX9_size 23 = .ok (.getfield 7, 3) := by decide +kernel
theorem dX9_size_26 : decode cX9_size 26 = .ok (.iload_n 1, 1) := by decide +kernel
theorem dX9_size_27 : decode cX9_size 27 = .ok (.iaload, 1) := by decide +kernel
theorem dX9_size_28 : decode cX9_size 28 = .ok (.istore_n 3, 1) := by decide +kernel
theorem dX9_size_29 : decode cX9_size 29 = .ok (.aload_n 0, 1) := by decide +kernel
theorem dX9_size_30 : decode cX9_size 30 = .ok (.getfield 7, 3) := by decide +kernel
theorem dX9_size_33 : decode cX9_size 33 = .ok (.iload_n 1, 1) := by decide +kernel
theorem dX9_size_34 : decode cX9_size 34 = .ok (.iload_n 2, 1) := by decide +kernel
theorem dX9_size_35 : decode cX9_size 35 = .ok (.iastore, 1) := by decide +kernel
theorem dX9_size_36 : decode cX9_size 36 = .ok (.iload_n 3, 1) := by decide +kernel
theorem dX9_size_37 : decode cX9_size 37 = .ok (.ireturn, 1) := by decide +kernel
theorem dX9_person_0 : decode cX9_person 0 = .ok (.iload_n 1, 1) := by decide +kernel
theorem dX9_person_1 : decode cX9_person 1 = .ok (.iconst 0, 1) := by decide +kernel
theorem dX9_person_2 : decode cX9_person 2 = .ok (.iconst 3, 1) := by decide +kernel
theorem dX9_person_3 : decode cX9_person 3 = .ok (.invokestatic 109, 3) := by decide +kernel
theorem dX9_person_6 : decode cX9_person 6 = .ok (.ifCond .ne 5, 3) := by decide +kernel
theorem dX9_person_9 : decode cX9_person 9 = .ok (.iconst (-1), 1) := by decide +kernel
theorem dX9_person_10 : decode cX9_person 10 = .ok (.ireturn, 1) := by decide +kernel
theorem dX9_person_11 : decode cX9_person 11 = .ok (.aload_n 0, 1) := by decide +kernel
theorem dX9_person_12 : decode cX9_person 12 = .ok (.getfield 106, 3) := by decide +kernel
theorem dX9_person_15 : decode cX9_person 15 = .ok (.bipush 10, 2) := by decide +kernel
theorem dX9_person_17 : decode cX9_person 17 = .ok (.if_icmp .ne 6, 3) := by decide +kernel
theorem dX9_person_20 : decode cX9_person 20 = .ok (.bipush (-2), 2) := by decide +kernel
theorem dX9_person_22 : decode cX9_person 22 = .ok (.ireturn, 1) := by decide +kernel
theorem dX9_person_23 : decode cX9_person 23 = .ok (.aload_n 0, 1) := by decide +kernel
theorem dX9_person_24 : decode cX9_person 24 = .ok (.getfield 13, 3) := by decide +kernel
theorem dX9_person_27 : decode cX9_person 27 = .ok (.aload_n 0, 1) := by decide +kernel
theorem dX9_person_28 : decode cX9_person 28 = .ok (.getfield 106, 3) := by decide +kernel
theorem dX9_person_31 : decode cX9_person 31 = .ok (.iload_n 1, 1) := by decide +kernel
theorem dX9_person_32 : decode cX9_person 32 = .ok (.iastore, 1) := by decide +kernel
theorem dX9_person_33 : decode cX9_person 33 = .ok (.aload_n 0, 1) := by decide +kernel
theorem dX9_person_34 : decode cX9_person 34 = .ok (.getfield 16, 3) := by decide +kernel
theorem dX9_person_37 : decode cX9_person 37 = .ok (.aload_n 0, 1) := by decide +kernel
theorem dX9_person_38 : decode cX9_person 38 = .ok (.getfield 106, 3) := by decide +kernel
theorem dX9_person_41 : decode cX9_person 41 = .ok (.iload_n 2, 1) := by decide +kernel
theorem dX9_person_42 : decode cX9_person 42 = .ok (.ifCond .eq 7, 3) := by decide +kernel
theorem dX9_person_45 : decode cX9_person 45 = .ok (.iconst 1, 1) := by decide +kernel
theorem dX9_person_46 : decode cX9_person 46 = .ok (.goto 4, 3) := by decide +kernel
theorem dX9_person_49 : decode cX9_person 49 = .ok (.iconst 0, 1) := by decide +kernel
theorem dX9_person_50 : decode cX9_person 50 = .ok (.iastore, 1) := by decide +kernel
theorem dX9_person_51 : decode cX9_person 51 = .ok (.aload_n 0, 1) := by decide +kernel
theorem dX9_person_52 : decode cX9_person 52 = .ok (.getfield 19, 3) := by decide +kernel
theorem dX9_person_55 : decode cX9_person 55 = .ok (.aload_n 0, 1) := by decide +kernel
theorem dX9_person_56 : decode cX9_person 56 = .ok (.getfield 106, 3) := by decide +kernel
theorem dX9_person_59 : decode cX9_person 59 = .ok (.aload_n 0, 1) := by decide +kernel
theorem dX9_person_60 : decode cX9_person 60 = .ok (.getfield 106, 3) := by decide +kernel
theorem dX9_person_63 : decode cX9_person 63 = .ok (.iastore, 1) := by decide +kernel
theorem dX9_person_64 : decode cX9_person 64 = .ok (.aload_n 0, 1) := by decide +kernel
theorem dX9_person_65 : decode cX9_person 65 = .ok (.dup, 1) := by decide +kernel
theorem dX9_person_66 : decode cX9_person 66 = .ok (.getfield 106, 3) := by decide +kernel
theorem dX9_person_69 : decode cX9_person 69 = .ok (.iconst 1, 1) := by decide +kernel
theorem dX9_person_70 : decode cX9_person 70 = .ok (.iadd, 1) := by decide +kernel
theorem dX9_person_71 : decode cX9_person 71 = .ok (.putfield 106, 3) := by decide +kernel
theorem dX9_person_74 : decode cX9_person 74 = .ok (.aload_n 0, 1) := by decide +kernel
theorem dX9_person_75 : decode cX9_person 75 = .ok (.getfield 106, 3) := by decide +kernel
theorem dX9_person_78 : decode cX9_person 78 = .ok (.iconst 1, 1) := by decide +kernel
theorem dX9_person_79 : decode cX9_person 79 = .ok (.isub, 1) := by decide +kernel
theorem dX9_person_80 : decode cX9_person 80 = .ok (.ireturn, 1) := by decide +kernel
theorem dX9_isHubOne_0 : decode cX9_isHubOne 0 = .ok (.iconst 0, 1) := by decide +kernel
theorem dX9_isHubOne_1 : decode cX9_isHubOne 1 = .ok (.istore_n 2, 1) := by decide +kernel
theorem dX9_isHubOne_2 : decode cX9_isHubOne 2 = .ok (.iload_n 2, 1) := by decide +kernel
theorem dX9_isHubOne_3 : decode cX9_isHubOne 3 = .ok (.aload_n 0, 1) := by decide +kernel
theorem dX9_isHubOne_4 : decode cX9_isHubOne 4 = .ok (.getfield 106, 3) := by decide +kernel
theorem dX9_isHubOne_7 : decode cX9_isHubOne 7 = .ok (.if_icmp .ge 31, 3) := by decide +kernel
theorem dX9_isHubOne_10 : decode cX9_isHubOne 10 = .ok (.aload_n 0, 1) := by decide +kernel
theorem dX9_isHubOne_11 : decode cX9_isHubOne 11 = .ok (.getfield 19, 3) := by decide +kernel
theorem dX9_isHubOne_14 : decode cX9_isHubOne 14 = .ok (.iload_n 2, 1) := by decide +kernel
theorem dX9_isHubOne_15 : decode cX9_isHubOne 15 = .ok (.iaload, 1) := by decide +kernel
theorem dX9_isHubOne_16 : decode cX9_isHubOne 16 = .ok (.iload_n 1, 1) := by decide +kernel
theorem dX9_isHubOne_17 : decode cX9_isHubOne 17 = .ok (.if_icmp .ne 15, 3) := by decide +kernel
theorem dX9_isHubOne_20 : decode cX9_isHubOne 20 = .ok (.aload_n 0, 1) := by decide +kernel
theorem dX9_isHubOne_21 : decode cX9_isHubOne 21 = .ok (.getfield 16, 3) := by decide +kernel
theorem dX9_isHubOne_24 : decode cX9_isHubOne 24 = .ok (.iload_n 2, 1) := by decide +kernel
theorem dX9_isHubOne_25 : decode cX9_isHubOne 25 = .ok (.iaload, 1) := by decide +kernel
theorem dX9_isHubOne_26 : decode cX9_isHubOne 26 = .ok (.iconst 1, 1) := by decide +kernel
theorem dX9_isHubOne_27 : decode cX9_isHubOne 27 = .ok (.if_icmp .ne 5, 3) := by decide +kernel
theorem dX9_isHubOne_30 : decode cX9_isHubOne 30 = .ok (.iconst 1, 1) := by decide +kernel
theorem dX9_isHubOne_31 : decode cX9_isHubOne 31 = .ok (.ireturn, 1) := by decide +kernel
theorem dX9_isHubOne_32 : decode cX9_isHubOne 32 = .ok (.iinc 2 1, 3) := by decide +kernel
theorem dX9_isHubOne_35 : decode cX9_isHubOne 35 = .ok (.goto (-33), 3) := by decide +kernel
theorem dX9_isHubOne_38 : decode cX9_isHubOne 38 = .ok (.iconst 0, 1) := by decide +kernel
theorem dX9_isHubOne_39 : decode cX9_isHubOne 39 = .ok (.ireturn, 1) := by decide +kernel
theorem dX9_oneIn_0 : decode cX9_oneIn 0 = .ok (.aload_n 0, 1) := by decide +kernel
theorem dX9_oneIn_1 : decode cX9_oneIn 1 = .ok (.iload_n 1, 1) := by decide +kernel
theorem dX9_oneIn_2 : decode cX9_oneIn 2 = .ok (.iconst 5, 1) := by decide +kernel
theorem dX9_oneIn_3 : decode cX9_oneIn 3 = .ok (.iload_n 2, 1) := by decide +kernel
theorem dX9_oneIn_4 : decode cX9_oneIn 4 = .ok (.iadd, 1) := by decide +kernel
theorem dX9_oneIn_5 : decode cX9_oneIn 5 = .ok (.invokevirtual 235, 3) := by decide +kernel
theorem dX9_oneIn_8 : decode cX9_oneIn 8 = .ok (.istore_n 3, 1) := by decide +kernel
theorem dX9_oneIn_9 : decode cX9_oneIn 9 = .ok (.iload_n 3, 1) := by decide +kernel
theorem dX9_oneIn_10 : decode cX9_oneIn 10 = .ok (.ifCond .ge 7, 3) := by decide +kernel
theorem dX9_oneIn_13 : decode cX9_oneIn 13 = .ok (.iconst (-1), 1) := by decide +kernel
theorem dX9_oneIn_14 : decode cX9_oneIn 14 = .ok (.goto 9, 3) := by decide +kernel
theorem dX9_oneIn_17 : decode cX9_oneIn 17 = .ok (.aload_n 0, 1) := by decide +kernel
theorem dX9_oneIn_18 : decode cX9_oneIn 18 = .ok (.getfield 19, 3) := by decide +kernel
theorem dX9_oneIn_21 : decode cX9_oneIn 21 = .ok (.iload_n 3, 1) := by decide +kernel
theorem dX9_oneIn_22 : decode cX9_oneIn 22 = .ok (.iaload, 1) := by decide +kernel
theorem dX9_oneIn_23 : decode cX9_oneIn 23 = .ok (.ireturn, 1) := by decide +kernel
theorem dX9_placesOf_0 : decode cX9_placesOf 0 = .ok (.iconst 0, 1) := by decide +kernel
theorem dX9_placesOf_1 : decode cX9_placesOf 1 = .ok (.istore_n 3, 1) := by decide +kernel
theorem dX9_placesOf_2 : decode cX9_placesOf 2 = .ok (.iconst 0, 1) := by decide +kernel
theorem dX9_placesOf_3 : decode cX9_placesOf 3 = .ok (.istore 4, 2) := by decide +kernel
theorem dX9_placesOf_5 : decode cX9_placesOf 5 = .ok (.iload 4, 2) := by decide +kernel
theorem dX9_placesOf_7 : decode cX9_placesOf 7 = .ok (.iconst 4, 1) := by decide +kernel
theorem dX9_placesOf_8 : decode cX9_placesOf 8 = .ok (.if_icmp .ge 31, 3) := by decide +kernel
theorem dX9_placesOf_11 : decode cX9_placesOf 11 = .ok (.iload_n 3, 1) := by decide +kernel
theorem dX9_placesOf_12 : decode cX9_placesOf 12 = .ok (.aload_n 0, 1) := by decide +kernel
theorem dX9_placesOf_13 : decode cX9_placesOf 13 = .ok (.iload_n 1, 1) := by decide +kernel
theorem dX9_placesOf_14 : decode cX9_placesOf 14 = .ok (.iload 4, 2) := by decide +kernel
theorem dX9_placesOf_16 : decode cX9_placesOf 16 = .ok (.invokevirtual 239, 3) := by decide +kernel
theorem dX9_placesOf_19 : decode cX9_placesOf 19 = .ok (.iload_n 2, 1) := by decide +kernel
theorem dX9_placesOf_20 : decode cX9_placesOf 20 = .ok (.if_icmp .ne 10, 3) := by decide +kernel
theorem dX9_placesOf_23 : decode cX9_placesOf 23 = .ok (.iconst 1, 1) := by decide +kernel
theorem dX9_placesOf_24 : decode cX9_placesOf 24 = .ok (.iload 4, 2) := by decide +kernel
theorem dX9_placesOf_26 : decode cX9_placesOf 26 = .ok (.ishl, 1) := by decide +kernel
theorem dX9_placesOf_27 : decode cX9_placesOf 27 = .ok (.goto 4, 3) := by decide +kernel
theorem dX9_placesOf_30 : decode cX9_placesOf 30 = .ok (.iconst 0, 1) := by decide +kernel
theorem dX9_placesOf_31 : decode cX9_placesOf 31 = .ok (.ior, 1) := by decide +kernel
theorem dX9_placesOf_32 : decode cX9_placesOf 32 = .ok (.istore_n 3, 1) := by decide +kernel
theorem dX9_placesOf_33 : decode cX9_placesOf 33 = .ok (.iinc 4 1, 3) := by decide +kernel
theorem dX9_placesOf_36 : decode cX9_placesOf 36 = .ok (.goto (-31), 3) := by decide +kernel
theorem dX9_placesOf_39 : decode cX9_placesOf 39 = .ok (.iload_n 3, 1) := by decide +kernel
theorem dX9_placesOf_40 : decode cX9_placesOf 40 = .ok (.ireturn, 1) := by decide +kernel
theorem dX9_claimsOf_0 : decode cX9_claimsOf 0 = .ok (.iconst 0, 1) := by decide +kernel
theorem dX9_claimsOf_1 : decode cX9_claimsOf 1 = .ok (.istore_n 2, 1) := by decide +kernel
theorem dX9_claimsOf_2 : decode cX9_claimsOf 2 = .ok (.iconst 0, 1) := by decide +kernel
theorem dX9_claimsOf_3 : decode cX9_claimsOf 3 = .ok (.istore_n 3, 1) := by decide +kernel
theorem dX9_claimsOf_4 : decode cX9_claimsOf 4 = .ok (.iload_n 3, 1) := by decide +kernel
theorem dX9_claimsOf_5 : decode cX9_claimsOf 5 = .ok (.aload_n 0, 1) := by decide +kernel
theorem dX9_claimsOf_6 : decode cX9_claimsOf 6 = .ok (.getfield 113, 3) := by decide +kernel
theorem dX9_claimsOf_9 : decode cX9_claimsOf 9 = .ok (.if_icmp .ge 26, 3) := by decide +kernel
theorem dX9_claimsOf_12 : decode cX9_claimsOf 12 = .ok (.iload_n 2, 1) := by decide +kernel
theorem dX9_claimsOf_13 : decode cX9_claimsOf 13 = .ok (.aload_n 0, 1) := by decide +kernel
theorem dX9_claimsOf_14 : decode cX9_claimsOf 14 = .ok (.iload_n 3, 1) := by decide +kernel
theorem dX9_claimsOf_15 : decode cX9_claimsOf 15 = .ok (.iload_n 1, 1) := by decide +kernel
theorem dX9_claimsOf_16 : decode cX9_claimsOf 16 = .ok (.invokevirtual 242, 3) := by decide +kernel
theorem dX9_claimsOf_19 : decode cX9_claimsOf 19 = .ok (.ifCond .eq 7, 3) := by decide +kernel
theorem dX9_claimsOf_22 : decode cX9_claimsOf 22 = .ok (.iconst 1, 1) := by decide +kernel
theorem dX9_claimsOf_23 : decode cX9_claimsOf 23 = .ok (.goto 4, 3) := by decide +kernel
theorem dX9_claimsOf_26 : decode cX9_claimsOf 26 = .ok (.iconst 0, 1) := by decide +kernel
theorem dX9_claimsOf_27 : decode cX9_claimsOf 27 = .ok (.iadd, 1) := by decide +kernel
theorem dX9_claimsOf_28 : decode cX9_claimsOf 28 = .ok (.istore_n 2, 1) := by decide +kernel
theorem dX9_claimsOf_29 : decode cX9_claimsOf 29 = .ok (.iinc 3 1, 3) := by decide +kernel
theorem dX9_claimsOf_32 : decode cX9_claimsOf 32 = .ok (.goto (-28), 3) := by decide +kernel
theorem dX9_claimsOf_35 : decode cX9_claimsOf 35 = .ok (.iload_n 2, 1) := by decide +kernel
theorem dX9_claimsOf_36 : decode cX9_claimsOf 36 = .ok (.ireturn, 1) := by decide +kernel
theorem dX9_personOf_0 : decode cX9_personOf 0 = .ok (.aload_n 0, 1) := by decide +kernel
theorem dX9_personOf_1 : decode cX9_personOf 1 = .ok (.iload_n 1, 1) := by decide +kernel
theorem dX9_personOf_2 : decode cX9_personOf 2 = .ok (.invokevirtual 245, 3) := by decide +kernel
theorem dX9_personOf_5 : decode cX9_personOf 5 = .ok (.ifCond .eq 12, 3) := by decide +kernel
theorem dX9_personOf_8 : decode cX9_personOf 8 = .ok (.iload_n 2, 1) := by decide +kernel
theorem dX9_personOf_9 : decode cX9_personOf 9 = .ok (.iconst 0, 1) := by decide +kernel
theorem dX9_personOf_10 : decode cX9_personOf 10 = .ok (.iconst 3, 1) := by decide +kernel
theorem dX9_personOf_11 : decode cX9_personOf 11 = .ok (.invokestatic 109, 3) := by decide +kernel
theorem dX9_personOf_14 : decode cX9_personOf 14 = .ok (.ifCond .ne 5, 3) := by decide +kernel
theorem dX9_personOf_17 : decode cX9_personOf 17 = .ok (.iconst (-1), 1) := by decide +kernel
theorem dX9_personOf_18 : decode cX9_personOf 18 = .ok (.ireturn, 1) := by decide +kernel
theorem dX9_personOf_19 : decode cX9_personOf 19 = .ok (.iload_n 2, 1) := by decide +kernel
theorem dX9_personOf_20 : decode cX9_personOf 20 = .ok (.tableswitch 61 0 2 #[28, 35, 42], 28) := by decide +kernel
theorem dX9_personOf_48 : decode cX9_personOf 48 = .ok (.aload_n 0, 1) := by decide +kernel
theorem dX9_personOf_49 : decode cX9_personOf 49 = .ok (.getfield 13, 3) := by decide +kernel
theorem dX9_personOf_52 : decode cX9_personOf 52 = .ok (.iload_n 1, 1) := by decide +kernel
theorem dX9_personOf_53 : decode cX9_personOf 53 = .ok (.iaload, 1) := by decide +kernel
theorem dX9_personOf_54 : decode cX9_personOf 54 = .ok (.ireturn, 1) := by decide +kernel
theorem dX9_personOf_55 : decode cX9_personOf 55 = .ok (.aload_n 0, 1) := by decide +kernel
theorem dX9_personOf_56 : decode cX9_personOf 56 = .ok (.getfield 19, 3) := by decide +kernel
theorem dX9_personOf_59 : decode cX9_personOf 59 = .ok (.iload_n 1, 1) := by decide +kernel
theorem dX9_personOf_60 : decode cX9_personOf 60 = .ok (.iaload, 1) := by decide +kernel
theorem dX9_personOf_61 : decode cX9_personOf 61 = .ok (.ireturn, 1) := by decide +kernel
theorem dX9_personOf_62 : decode cX9_personOf 62 = .ok (.aload_n 0, 1) := by decide +kernel
theorem dX9_personOf_63 : decode cX9_personOf 63 = .ok (.aload_n 0, 1) := by decide +kernel
theorem dX9_personOf_64 : decode cX9_personOf 64 = .ok (.getfield 19, 3) := by decide +kernel
theorem dX9_personOf_67 : decode cX9_personOf 67 = .ok (.iload_n 1, 1) := by decide +kernel
theorem dX9_personOf_68 : decode cX9_personOf 68 = .ok (.iaload, 1) := by decide +kernel
theorem dX9_personOf_69 : decode cX9_personOf 69 = .ok (.invokevirtual 248, 3) := by decide +kernel
theorem dX9_personOf_72 : decode cX9_personOf 72 = .ok (.ifCond .eq 7, 3) := by decide +kernel
theorem dX9_personOf_75 : decode cX9_personOf 75 = .ok (.iconst 1, 1) := by decide +kernel
theorem dX9_personOf_76 : decode cX9_personOf 76 = .ok (.goto 4, 3) := by decide +kernel
theorem dX9_personOf_79 : decode cX9_personOf 79 = .ok (.iconst 0, 1) := by decide +kernel
theorem dX9_personOf_80 : decode cX9_personOf 80 = .ok (.ireturn, 1) := by decide +kernel
theorem dX9_personOf_81 : decode cX9_personOf 81 = .ok (.aload_n 0, 1) := by decide +kernel
theorem dX9_personOf_82 : decode cX9_personOf 82 = .ok (.aload_n 0, 1) := by decide +kernel
theorem dX9_personOf_83 : decode cX9_personOf 83 = .ok (.getfield 19, 3) := by decide +kernel
theorem dX9_personOf_86 : decode cX9_personOf 86 = .ok (.iload_n 1, 1) := by decide +kernel
theorem dX9_personOf_87 : decode cX9_personOf 87 = .ok (.iaload, 1) := by decide +kernel
theorem dX9_personOf_88 : decode cX9_personOf 88 = .ok (.invokevirtual 251, 3) := by decide +kernel
theorem dX9_personOf_91 : decode cX9_personOf 91 = .ok (.ireturn, 1) := by decide +kernel
theorem dX9_join_0 : decode cX9_join 0 = .ok (.aload_n 0, 1) := by decide +kernel
theorem dX9_join_1 : decode cX9_join 1 = .ok (.iload_n 1, 1) := by decide +kernel
theorem dX9_join_2 : decode cX9_join 2 = .ok (.invokevirtual 245, 3) := by decide +kernel
theorem dX9_join_5 : decode cX9_join 5 = .ok (.ifCond .eq 11, 3) := by decide +kernel
theorem dX9_join_8 : decode cX9_join 8 = .ok (.aload_n 0, 1) := by decide +kernel
theorem dX9_join_9 : decode cX9_join 9 = .ok (.iload_n 2, 1) := by decide +kernel
theorem dX9_join_10 : decode cX9_join 10 = .ok (.invokevirtual 245, 3) := by decide +kernel
theorem dX9_join_13 : decode cX9_join 13 = .ok (.ifCond .ne 5, 3) := by decide +kernel
theorem dX9_join_16 : decode cX9_join 16 = .ok (.iconst (-1), 1) := by decide +kernel
theorem dX9_join_17 : decode cX9_join 17 = .ok (.ireturn, 1) := by decide +kernel
theorem dX9_join_18 : decode cX9_join 18 = .ok (.aload_n 0, 1) := by decide +kernel
theorem dX9_join_19 : decode cX9_join 19 = .ok (.getfield 19, 3) := by decide +kernel
theorem dX9_join_22 : decode cX9_join 22 = .ok (.iload_n 1, 1) := by decide +kernel
theorem dX9_join_23 : decode cX9_join 23 = .ok (.iaload, 1) := by decide +kernel
theorem dX9_join_24 : decode cX9_join 24 = .ok (.istore_n 3, 1) := by decide +kernel
theorem dX9_join_25 : decode cX9_join 25 = .ok (.aload_n 0, 1) := by decide +kernel
theorem dX9_join_26 : decode cX9_join 26 = .ok (.getfield 19, 3) := by decide +kernel
theorem dX9_join_29 : decode cX9_join 29 = .ok (.iload_n 2, 1) := by decide +kernel
theorem dX9_join_30 : decode cX9_join 30 = .ok (.iaload, 1) := by decide +kernel
theorem dX9_join_31 : decode cX9_join 31 = .ok (.istore 4, 2) := by decide +kernel
theorem dX9_join_33 : decode cX9_join 33 = .ok (.iload_n 3, 1) := by decide +kernel
theorem dX9_join_34 : decode cX9_join 34 = .ok (.iload 4, 2) := by decide +kernel
theorem dX9_join_36 : decode cX9_join 36 = .ok (.if_icmp .ne 5, 3) := by decide +kernel
theorem dX9_join_39 : decode cX9_join 39 = .ok (.iconst 0, 1) := by decide +kernel
theorem dX9_join_40 : decode cX9_join 40 = .ok (.ireturn, 1) := by decide +kernel
theorem dX9_join_41 : decode cX9_join 41 = .ok (.iconst 0, 1) := by decide +kernel
theorem dX9_join_42 : decode cX9_join 42 = .ok (.istore 5, 2) := by decide +kernel
theorem dX9_join_44 : decode cX9_join 44 = .ok (.iload 5, 2) := by decide +kernel
theorem dX9_join_46 : decode cX9_join 46 = .ok (.aload_n 0, 1) := by decide +kernel
theorem dX9_join_47 : decode cX9_join 47 = .ok (.getfield 106, 3) := by decide +kernel
theorem dX9_join_50 : decode cX9_join 50 = .ok (.if_icmp .ge 61, 3) := by decide +kernel
theorem dX9_join_53 : decode cX9_join 53 = .ok (.aload_n 0, 1) := by decide +kernel
theorem dX9_join_54 : decode cX9_join 54 = .ok (.getfield 19, 3) := by decide +kernel
theorem dX9_join_57 : decode cX9_join 57 = .ok (.iload 5, 2) := by decide +kernel
theorem dX9_join_59 : decode cX9_join 59 = .ok (.aload_n 0, 1) := by decide +kernel
theorem dX9_join_60 : decode cX9_join 60 = .ok (.getfield 19, 3) := by decide +kernel
theorem dX9_join_63 : decode cX9_join 63 = .ok (.iload 5, 2) := by decide +kernel
theorem dX9_join_65 : decode cX9_join 65 = .ok (.iaload, 1) := by decide +kernel
theorem dX9_join_66 : decode cX9_join 66 = .ok (.iload_n 3, 1) := by decide +kernel
theorem dX9_join_67 : decode cX9_join 67 = .ok (.if_icmp .eq 15, 3) := by decide +kernel
theorem dX9_join_70 : decode cX9_join 70 = .ok (.aload_n 0, 1) := by decide +kernel
theorem dX9_join_71 : decode cX9_join 71 = .ok (.getfield 19, 3) := by decide +kernel
theorem dX9_join_74 : decode cX9_join 74 = .ok (.iload 5, 2) := by decide +kernel
theorem dX9_join_76 : decode cX9_join 76 = .ok (.iaload, 1) := by decide +kernel
theorem dX9_join_77 : decode cX9_join 77 = .ok (.iload 4, 2) := by decide +kernel
theorem dX9_join_79 : decode cX9_join 79 = .ok (.if_icmp .ne 18, 3) := by decide +kernel
theorem dX9_join_82 : decode cX9_join 82 = .ok (.iload_n 3, 1) := by decide +kernel
theorem dX9_join_83 : decode cX9_join 83 = .ok (.iload 4, 2) := by decide +kernel
theorem dX9_join_85 : decode cX9_join 85 = .ok (.if_icmp .ge 7, 3) := by decide +kernel
theorem dX9_join_88 : decode cX9_join 88 = .ok (.iload_n 3, 1) := by decide +kernel
theorem dX9_join_89 : decode cX9_join 89 = .ok (.goto 15, 3) := by decide +kernel
theorem dX9_join_92 : decode cX9_join 92 = .ok (.iload 4, 2) := by decide +kernel
theorem dX9_join_94 : decode cX9_join 94 = .ok (.goto 10, 3) := by decide +kernel
theorem dX9_join_97 : decode cX9_join 97 = .ok (.aload_n 0, 1) := by decide +kernel
theorem dX9_join_98 : decode cX9_join 98 = .ok (.getfield 19, 3) := by decide +kernel
theorem dX9_join_101 : decode cX9_join 101 = .ok (.iload 5, 2) := by decide +kernel
theorem dX9_join_103 : decode cX9_join 103 = .ok (.iaload, 1) := by decide +kernel
theorem dX9_join_104 : decode cX9_join 104 = .ok (.iastore, 1) := by decide +kernel
theorem dX9_join_105 : decode cX9_join 105 = .ok (.iinc 5 1, 3) := by decide +kernel
theorem dX9_join_108 : decode cX9_join 108 = .ok (.goto (-64), 3) := by decide +kernel
theorem dX9_join_111 : decode cX9_join 111 = .ok (.iconst 1, 1) := by decide +kernel
theorem dX9_join_112 : decode cX9_join 112 = .ok (.ireturn, 1) := by decide +kernel
theorem dX9_claim_0 : decode cX9_claim 0 = .ok (.iload_n 1, 1) := by decide +kernel
theorem dX9_claim_1 : decode cX9_claim 1 = .ok (.iconst 0, 1) := by decide +kernel
theorem dX9_claim_2 : decode cX9_claim 2 = .ok (.iconst 5, 1) := by decide +kernel
theorem dX9_claim_3 : decode cX9_claim 3 = .ok (.invokestatic 109, 3) := by decide +kernel
theorem dX9_claim_6 : decode cX9_claim 6 = .ok (.ifCond .eq 44, 3) := by decide +kernel
theorem dX9_claim_9 : decode cX9_claim 9 = .ok (.iload_n 2, 1) := by decide +kernel
theorem dX9_claim_10 : decode cX9_claim 10 = .ok (.iconst 0, 1) := by decide +kernel
theorem dX9_claim_11 : decode cX9_claim 11 = .ok (.bipush 99, 2) := by decide +kernel
theorem dX9_claim_13 : decode cX9_claim 13 = .ok (.invokestatic 109, 3) := by decide +kernel
theorem dX9_claim_16 : decode cX9_claim 16 = .ok (.ifCond .eq 34, 3) := by decide +kernel
theorem dX9_claim_19 : decode cX9_claim 19 = .ok (.iload_n 3, 1) := by decide +kernel
theorem dX9_claim_20 : decode cX9_claim 20 = .ok (.iconst 0, 1) := by decide +kernel
theorem dX9_claim_21 : decode cX9_claim 21 = .ok (.iconst 3, 1) := by decide +kernel
theorem dX9_claim_22 : decode cX9_claim 22 = .ok (.invokestatic 109, 3) := by decide +kernel
theorem dX9_claim_25 : decode cX9_claim 25 = .ok (.ifCond .eq 25, 3) := by decide +kernel
theorem dX9_claim_28 : decode cX9_claim 28 = .ok (.iload 4, 2) := by decide +kernel
theorem dX9_claim_30 : decode cX9_claim 30 = .ok (.iconst 0, 1) := by decide +kernel
theorem dX9_claim_31 : decode cX9_claim 31 = .ok (.bipush 9, 2) := by decide +kernel
theorem dX9_claim_33 : decode cX9_claim 33 = .ok (.invokestatic 109, 3) := by decide +kernel
theorem dX9_claim_36 : decode cX9_claim 36 = .ok (.ifCond .eq 14, 3) := by decide +kernel
theorem dX9_claim_39 : decode cX9_claim 39 = .ok (.iload 5, 2) := by decide +kernel
theorem dX9_claim_41 : decode cX9_claim 41 = .ok (.iconst 0, 1) := by decide +kernel
theorem dX9_claim_42 : decode cX9_claim 42 = .ok (.bipush 99, 2) := by decide +kernel
theorem dX9_claim_44 : decode cX9_claim 44 = .ok (.invokestatic 109, 3) := by decide +kernel
theorem dX9_claim_47 : decode cX9_claim 47 = .ok (.ifCond .ne 5, 3) := by decide +kernel
theorem dX9_claim_50 : decode cX9_claim 50 = .ok (.iconst (-1), 1) := by decide +kernel
theorem dX9_claim_51 : decode cX9_claim 51 = .ok (.ireturn, 1) := by decide +kernel
theorem dX9_claim_52 : decode cX9_claim 52 = .ok (.aload_n 0, 1) := by decide +kernel
theorem dX9_claim_53 : decode cX9_claim 53 = .ok (.getfield 113, 3) := by decide +kernel
theorem dX9_claim_56 : decode cX9_claim 56 = .ok (.bipush 9, 2) := by decide +kernel
theorem dX9_claim_58 : decode cX9_claim 58 = .ok (.if_icmp .ne 6, 3) := by decide +kernel
theorem dX9_claim_61 : decode cX9_claim 61 = .ok (.bipush (-2), 2) := by decide +kernel
theorem dX9_claim_63 : decode cX9_claim 63 = .ok (.ireturn, 1) := by decide +kernel
theorem dX9_claim_64 : decode cX9_claim 64 = .ok (.bipush 11, 2) := by decide +kernel
theorem dX9_claim_66 : decode cX9_claim 66 = .ok (.aload_n 0, 1) := by decide +kernel
theorem dX9_claim_67 : decode cX9_claim 67 = .ok (.getfield 113, 3) := by decide +kernel
theorem dX9_claim_70 : decode cX9_claim 70 = .ok (.imul, 1) := by decide +kernel
theorem dX9_claim_71 : decode cX9_claim 71 = .ok (.istore 6, 2) := by decide +kernel
theorem dX9_claim_73 : decode cX9_claim 73 = .ok (.aload_n 0, 1) := by decide +kernel
theorem dX9_claim_74 : decode cX9_claim 74 = .ok (.getfield 22, 3) := by decide +kernel
theorem dX9_claim_77 : decode cX9_claim 77 = .ok (.iload 6, 2) := by decide +kernel
theorem dX9_claim_79 : decode cX9_claim 79 = .ok (.iload_n 1, 1) := by decide +kernel
theorem dX9_claim_80 : decode cX9_claim 80 = .ok (.iastore, 1) := by decide +kernel
theorem dX9_claim_81 : decode cX9_claim 81 = .ok (.aload_n 0, 1) := by decide +kernel
theorem dX9_claim_82 : decode cX9_claim 82 = .ok (.getfield 22, 3) := by decide +kernel
theorem dX9_claim_85 : decode cX9_claim 85 = .ok (.iload 6, 2) := by decide +kernel
theorem dX9_claim_87 : decode cX9_claim 87 = .ok (.iconst 1, 1) := by decide +kernel
theorem dX9_claim_88 : decode cX9_claim 88 = .ok (.iadd, 1) := by decide +kernel
theorem dX9_claim_89 : decode cX9_claim 89 = .ok (.iload_n 2, 1) := by decide +kernel
theorem dX9_claim_90 : decode cX9_claim 90 = .ok (.iastore, 1) := by decide +kernel
theorem dX9_claim_91 : decode cX9_claim 91 = .ok (.aload_n 0, 1) := by decide +kernel
theorem dX9_claim_92 : decode cX9_claim 92 = .ok (.getfield 22, 3) := by decide +kernel
theorem dX9_claim_95 : decode cX9_claim 95 = .ok (.iload 6, 2) := by decide +kernel
theorem dX9_claim_97 : decode cX9_claim 97 = .ok (.iconst 2, 1) := by decide +kernel
theorem dX9_claim_98 : decode cX9_claim 98 = .ok (.iadd, 1) := by decide +kernel
theorem dX9_claim_99 : decode cX9_claim 99 = .ok (.iload_n 3, 1) := by decide +kernel
theorem dX9_claim_100 : decode cX9_claim 100 = .ok (.iastore, 1) := by decide +kernel
theorem dX9_claim_101 : decode cX9_claim 101 = .ok (.aload_n 0, 1) := by decide +kernel
theorem dX9_claim_102 : decode cX9_claim 102 = .ok (.getfield 22, 3) := by decide +kernel
theorem dX9_claim_105 : decode cX9_claim 105 = .ok (.iload 6, 2) := by decide +kernel
theorem dX9_claim_107 : decode cX9_claim 107 = .ok (.iconst 3, 1) := by decide +kernel
theorem dX9_claim_108 : decode cX9_claim 108 = .ok (.iadd, 1) := by decide +kernel
theorem dX9_claim_109 : decode cX9_claim 109 = .ok (.iload 4, 2) := by decide +kernel
theorem dX9_claim_111 : decode cX9_claim 111 = .ok (.iastore, 1) := by decide +kernel
theorem dX9_claim_112 : decode cX9_claim 112 = .ok (.aload_n 0, 1) := by decide +kernel
theorem dX9_claim_113 : decode cX9_claim 113 = .ok (.getfield 22, 3) := by decide +kernel
theorem dX9_claim_116 : decode cX9_claim 116 = .ok (.iload 6, 2) := by decide +kernel
theorem dX9_claim_118 : decode cX9_claim 118 = .ok (.iconst 4, 1) := by decide +kernel
theorem dX9_claim_119 : decode cX9_claim 119 = .ok (.iadd, 1) := by decide +kernel
theorem dX9_claim_120 : decode cX9_claim 120 = .ok (.iload 5, 2) := by decide +kernel
theorem dX9_claim_122 : decode cX9_claim 122 = .ok (.iastore, 1) := by decide +kernel
theorem dX9_claim_123 : decode cX9_claim 123 = .ok (.iconst 0, 1) := by decide +kernel
theorem dX9_claim_124 : decode cX9_claim 124 = .ok (.istore 7, 2) := by decide +kernel
theorem dX9_claim_126 : decode cX9_claim 126 = .ok (.iload 7, 2) := by decide +kernel
theorem dX9_claim_128 : decode cX9_claim 128 = .ok (.iconst 4, 1) := by decide +kernel
theorem dX9_claim_129 : decode cX9_claim 129 = .ok (.if_icmp .ge 22, 3) := by decide +kernel
theorem dX9_claim_132 : decode cX9_claim 132 = .ok (.aload_n 0, 1) := by decide +kernel
theorem dX9_claim_133 : decode cX9_claim 133 = .ok (.getfield 22, 3) := by decide +kernel
theorem dX9_claim_136 : decode cX9_claim 136 = .ok (.iload 6, 2) := by decide +kernel
theorem dX9_claim_138 : decode cX9_claim 138 = .ok (.iconst 5, 1) := by decide +kernel
theorem dX9_claim_139 : decode cX9_claim 139 = .ok (.iadd, 1) := by decide +kernel
theorem dX9_claim_140 : decode cX9_claim 140 = .ok (.iload 7, 2) := by decide +kernel
theorem dX9_claim_142 : decode cX9_claim 142 = .ok (.iadd, 1) := by decide +kernel
theorem dX9_claim_143 : decode cX9_claim 143 = .ok (.iconst (-1), 1) := by decide +kernel
theorem dX9_claim_144 : decode cX9_claim 144 = .ok (.iastore, 1) := by decide +kernel
theorem dX9_claim_145 : decode cX9_claim 145 = .ok (.iinc 7 1, 3) := by decide +kernel
theorem dX9_claim_148 : decode cX9_claim 148 = .ok (.goto (-22), 3) := by decide +kernel
theorem dX9_claim_151 : decode cX9_claim 151 = .ok (.aload_n 0, 1) := by decide +kernel
theorem dX9_claim_152 : decode cX9_claim 152 = .ok (.getfield 22, 3) := by decide +kernel
theorem dX9_claim_155 : decode cX9_claim 155 = .ok (.iload 6, 2) := by decide +kernel
theorem dX9_claim_157 : decode cX9_claim 157 = .ok (.bipush 9, 2) := by decide +kernel
theorem dX9_claim_159 : decode cX9_claim 159 = .ok (.iadd, 1) := by decide +kernel
theorem dX9_claim_160 : decode cX9_claim 160 = .ok (.iconst 0, 1) := by decide +kernel
theorem dX9_claim_161 : decode cX9_claim 161 = .ok (.iastore, 1) := by decide +kernel
theorem dX9_claim_162 : decode cX9_claim 162 = .ok (.aload_n 0, 1) := by decide +kernel
theorem dX9_claim_163 : decode cX9_claim 163 = .ok (.getfield 22, 3) := by decide +kernel
theorem dX9_claim_166 : decode cX9_claim 166 = .ok (.iload 6, 2) := by decide +kernel
theorem dX9_claim_168 : decode cX9_claim 168 = .ok (.bipush 10, 2) := by decide +kernel
theorem dX9_claim_170 : decode cX9_claim 170 = .ok (.iadd, 1) := by decide +kernel
theorem dX9_claim_171 : decode cX9_claim 171 = .ok (.iconst 0, 1) := by decide +kernel
theorem dX9_claim_172 : decode cX9_claim 172 = .ok (.iastore, 1) := by decide +kernel
theorem dX9_claim_173 : decode cX9_claim 173 = .ok (.aload_n 0, 1) := by decide +kernel
theorem dX9_claim_174 : decode cX9_claim 174 = .ok (.dup, 1) := by decide +kernel
theorem dX9_claim_175 : decode cX9_claim 175 = .ok (.getfield 113, 3) := by decide +kernel
theorem dX9_claim_178 : decode cX9_claim 178 = .ok (.iconst 1, 1) := by decide +kernel
theorem dX9_claim_179 : decode cX9_claim 179 = .ok (.iadd, 1) := by decide +kernel
theorem dX9_claim_180 : decode cX9_claim 180 = .ok (.putfield 113, 3) := by decide +kernel
theorem dX9_claim_183 : decode cX9_claim 183 = .ok (.aload_n 0, 1) := by decide +kernel
theorem dX9_claim_184 : decode cX9_claim 184 = .ok (.getfield 113, 3) := by decide +kernel
theorem dX9_claim_187 : decode cX9_claim 187 = .ok (.iconst 1, 1) := by decide +kernel
theorem dX9_claim_188 : decode cX9_claim 188 = .ok (.isub, 1) := by decide +kernel
theorem dX9_claim_189 : decode cX9_claim 189 = .ok (.ireturn, 1) := by decide +kernel
theorem dX9_orNobody_0 : decode cX9_orNobody 0 = .ok (.iload_n 0, 1) := by decide +kernel
theorem dX9_orNobody_1 : decode cX9_orNobody 1 = .ok (.ifCond .ge 8, 3) := by decide +kernel
theorem dX9_orNobody_4 : decode cX9_orNobody 4 = .ok (.bipush (-9), 2) := by decide +kernel
theorem dX9_orNobody_6 : decode cX9_orNobody 6 = .ok (.goto 4, 3) := by decide +kernel
theorem dX9_orNobody_9 : decode cX9_orNobody 9 = .ok (.iload_n 0, 1) := by decide +kernel
theorem dX9_orNobody_10 : decode cX9_orNobody 10 = .ok (.ireturn, 1) := by decide +kernel
theorem dX9_claimOf_0 : decode cX9_claimOf 0 = .ok (.aload_n 0, 1) := by decide +kernel
theorem dX9_claimOf_1 : decode cX9_claimOf 1 = .ok (.iload_n 1, 1) := by decide +kernel
theorem dX9_claimOf_2 : decode cX9_claimOf 2 = .ok (.invokevirtual 254, 3) := by decide +kernel
theorem dX9_claimOf_5 : decode cX9_claimOf 5 = .ok (.ifCond .eq 23, 3) := by decide +kernel
theorem dX9_claimOf_8 : decode cX9_claimOf 8 = .ok (.iload_n 2, 1) := by decide +kernel
theorem dX9_claimOf_9 : decode cX9_claimOf 9 = .ok (.iconst 0, 1) := by decide +kernel
theorem dX9_claimOf_10 : decode cX9_claimOf 10 = .ok (.iconst 4, 1) := by decide +kernel
theorem dX9_claimOf_11 : decode cX9_claimOf 11 = .ok (.invokestatic 109, 3) := by decide +kernel
theorem dX9_claimOf_14 : decode cX9_claimOf 14 = .ok (.ifCond .ne 16, 3) := by decide +kernel
theorem dX9_claimOf_17 : decode cX9_claimOf 17 = .ok (.iload_n 2, 1) := by decide +kernel
theorem dX9_claimOf_18 : decode cX9_claimOf 18 = .ok (.bipush 10, 2) := by decide +kernel
theorem dX9_claimOf_20 : decode cX9_claimOf 20 = .ok (.bipush 13, 2) := by decide +kernel
theorem dX9_claimOf_22 : decode cX9_claimOf 22 = .ok (.invokestatic 109, 3) := by decide +kernel
theorem dX9_claimOf_25 : decode cX9_claimOf 25 = .ok (.ifCond .ne 5, 3) := by decide +kernel
theorem dX9_claimOf_28 : decode cX9_claimOf 28 = .ok (.iconst (-1), 1) := by decide +kernel
theorem dX9_claimOf_29 : decode cX9_claimOf 29 = .ok (.ireturn, 1) := by decide +kernel
theorem dX9_claimOf_30 : decode cX9_claimOf 30 = .ok (.iload_n 2, 1) := by decide +kernel
theorem dX9_claimOf_31 : decode cX9_claimOf 31 = .ok (.bipush 10, 2) := by decide +kernel
theorem dX9_claimOf_33 : decode cX9_claimOf 33 = .ok (.if_icmp .ge 12, 3) := by decide +kernel
theorem dX9_claimOf_36 : decode cX9_claimOf 36 = .ok (.aload_n 0, 1) := by decide +kernel
theorem dX9_claimOf_37 : decode cX9_claimOf 37 = .ok (.iload_n 1, 1) := by decide +kernel
theorem dX9_claimOf_38 : decode cX9_claimOf 38 = .ok (.iload_n 2, 1) := by decide +kernel
theorem dX9_claimOf_39 : decode cX9_claimOf 39 = .ok (.invokevirtual 235, 3) := by decide +kernel
theorem dX9_claimOf_42 : decode cX9_claimOf 42 = .ok (.goto 17, 3) := by decide +kernel
theorem dX9_claimOf_45 : decode cX9_claimOf 45 = .ok (.aload_n 0, 1) := by decide +kernel
theorem dX9_claimOf_46 : decode cX9_claimOf 46 = .ok (.iload_n 1, 1) := by decide +kernel
theorem dX9_claimOf_47 : decode cX9_claimOf 47 = .ok (.iconst 5, 1) := by decide +kernel
theorem dX9_claimOf_48 : decode cX9_claimOf 48 = .ok (.iload_n 2, 1) := by decide +kernel
theorem dX9_claimOf_49 : decode cX9_claimOf 49 = .ok (.iadd, 1) := by decide +kernel
theorem dX9_claimOf_50 : decode cX9_claimOf 50 = .ok (.bipush 10, 2) := by decide +kernel
theorem dX9_claimOf_52 : decode cX9_claimOf 52 = .ok (.isub, 1) := by decide +kernel
theorem dX9_claimOf_53 : decode cX9_claimOf 53 = .ok (.invokevirtual 235, 3) := by decide +kernel
theorem dX9_claimOf_56 : decode cX9_claimOf 56 = .ok (.invokestatic 257, 3) := by decide +kernel
theorem dX9_claimOf_59 : decode cX9_claimOf 59 = .ok (.ireturn, 1) := by decide +kernel
theorem dX9_seat_0 : decode cX9_seat 0 = .ok (.aload_n 0, 1) := by decide +kernel
theorem dX9_seat_1 : decode cX9_seat 1 = .ok (.iload_n 1, 1) := by decide +kernel
theorem dX9_seat_2 : decode cX9_seat 2 = .ok (.invokevirtual 254, 3) := by decide +kernel
theorem dX9_seat_5 : decode cX9_seat 5 = .ok (.ifCond .eq 25, 3) := by decide +kernel
theorem dX9_seat_8 : decode cX9_seat 8 = .ok (.iload_n 2, 1) := by decide +kernel
theorem dX9_seat_9 : decode cX9_seat 9 = .ok (.iconst 0, 1) := by decide +kernel
theorem dX9_seat_10 : decode cX9_seat 10 = .ok (.iconst 3, 1) := by decide +kernel
theorem dX9_seat_11 : decode cX9_seat 11 = .ok (.invokestatic 109, 3) := by decide +kernel
theorem dX9_seat_14 : decode cX9_seat 14 = .ok (.ifCond .eq 16, 3) := by decide +kernel
theorem dX9_seat_17 : decode cX9_seat 17 = .ok (.iload_n 3, 1) := by decide +kernel
theorem dX9_seat_18 : decode cX9_seat 18 = .ok (.iconst (-1), 1) := by decide +kernel
theorem dX9_seat_19 : decode cX9_seat 19 = .ok (.if_icmp .eq 13, 3) := by decide +kernel
theorem dX9_seat_22 : decode cX9_seat 22 = .ok (.aload_n 0, 1) := by decide +kernel
theorem dX9_seat_23 : decode cX9_seat 23 = .ok (.iload_n 3, 1) := by decide +kernel
theorem dX9_seat_24 : decode cX9_seat 24 = .ok (.invokevirtual 245, 3) := by decide +kernel
theorem dX9_seat_27 : decode cX9_seat 27 = .ok (.ifCond .ne 5, 3) := by decide +kernel
theorem dX9_seat_30 : decode cX9_seat 30 = .ok (.iconst (-1), 1) := by decide +kernel
theorem dX9_seat_31 : decode cX9_seat 31 = .ok (.ireturn, 1) := by decide +kernel
theorem dX9_seat_32 : decode cX9_seat 32 = .ok (.iload_n 3, 1) := by decide +kernel
theorem dX9_seat_33 : decode cX9_seat 33 = .ok (.ifCond .lt 34, 3) := by decide +kernel
theorem dX9_seat_36 : decode cX9_seat 36 = .ok (.aload_n 0, 1) := by decide +kernel
theorem dX9_seat_37 : decode cX9_seat 37 = .ok (.iload_n 1, 1) := by decide +kernel
theorem dX9_seat_38 : decode cX9_seat 38 = .ok (.aload_n 0, 1) := by decide +kernel
theorem dX9_seat_39 : decode cX9_seat 39 = .ok (.getfield 19, 3) := by decide +kernel
theorem dX9_seat_42 : decode cX9_seat 42 = .ok (.iload_n 3, 1) := by decide +kernel
theorem dX9_seat_43 : decode cX9_seat 43 = .ok (.ifCond .ge 7, 3) := by decide +kernel
theorem dX9_seat_46 : decode cX9_seat 46 = .ok (.iconst 0, 1) := by decide +kernel
theorem dX9_seat_47 : decode cX9_seat 47 = .ok (.goto 4, 3) := by decide +kernel
theorem dX9_seat_50 : decode cX9_seat 50 = .ok (.iload_n 3, 1) := by decide +kernel
theorem dX9_seat_51 : decode cX9_seat 51 = .ok (.iaload, 1) := by decide +kernel
theorem dX9_seat_52 : decode cX9_seat 52 = .ok (.invokevirtual 242, 3) := by decide +kernel
theorem dX9_seat_55 : decode cX9_seat 55 = .ok (.iconst 1, 1) := by decide +kernel
theorem dX9_seat_56 : decode cX9_seat 56 = .ok (.iload_n 2, 1) := by decide +kernel
theorem dX9_seat_57 : decode cX9_seat 57 = .ok (.ishl, 1) := by decide +kernel
theorem dX9_seat_58 : decode cX9_seat 58 = .ok (.iconst (-1), 1) := by decide +kernel
theorem dX9_seat_59 : decode cX9_seat 59 = .ok (.ixor, 1) := by decide +kernel
theorem dX9_seat_60 : decode cX9_seat 60 = .ok (.iand, 1) := by decide +kernel
theorem dX9_seat_61 : decode cX9_seat 61 = .ok (.ifCond .eq 6, 3) := by decide +kernel
theorem dX9_seat_64 : decode cX9_seat 64 = .ok (.bipush (-4), 2) := by decide +kernel
theorem dX9_seat_66 : decode cX9_seat 66 = .ok (.ireturn, 1) := by decide +kernel
theorem dX9_seat_67 : decode cX9_seat 67 = .ok (.aload_n 0, 1) := by decide +kernel
theorem dX9_seat_68 : decode cX9_seat 68 = .ok (.iload_n 1, 1) := by decide +kernel
theorem dX9_seat_69 : decode cX9_seat 69 = .ok (.iconst 5, 1) := by decide +kernel
theorem dX9_seat_70 : decode cX9_seat 70 = .ok (.iload_n 2, 1) := by decide +kernel
theorem dX9_seat_71 : decode cX9_seat 71 = .ok (.iadd, 1) := by decide +kernel
theorem dX9_seat_72 : decode cX9_seat 72 = .ok (.invokevirtual 235, 3) := by decide +kernel
theorem dX9_seat_75 : decode cX9_seat 75 = .ok (.istore 4, 2) := by decide +kernel
theorem dX9_seat_77 : decode cX9_seat 77 = .ok (.aload_n 0, 1) := by decide +kernel
theorem dX9_seat_78 : decode cX9_seat 78 = .ok (.getfield 22, 3) := by decide +kernel
theorem dX9_seat_81 : decode cX9_seat 81 = .ok (.bipush 11, 2) := by decide +kernel
theorem dX9_seat_83 : decode cX9_seat 83 = .ok (.iload_n 1, 1) := by decide +kernel
theorem dX9_seat_84 : decode cX9_seat 84 = .ok (.imul, 1) := by decide +kernel
theorem dX9_seat_85 : decode cX9_seat 85 = .ok (.iconst 5, 1) := by decide +kernel
theorem dX9_seat_86 : decode cX9_seat 86 = .ok (.iadd, 1) := by decide +kernel
theorem dX9_seat_87 : decode cX9_seat 87 = .ok (.iload_n 2, 1) := by decide +kernel
theorem dX9_seat_88 : decode cX9_seat 88 = .ok (.iadd, 1) := by decide +kernel
theorem dX9_seat_89 : decode cX9_seat 89 = .ok (.iload_n 3, 1) := by decide +kernel
theorem dX9_seat_90 : decode cX9_seat 90 = .ok (.iastore, 1) := by decide +kernel
theorem dX9_seat_91 : decode cX9_seat 91 = .ok (.iload 4, 2) := by decide +kernel
theorem dX9_seat_93 : decode cX9_seat 93 = .ok (.invokestatic 257, 3) := by decide +kernel
theorem dX9_seat_96 : decode cX9_seat 96 = .ok (.ireturn, 1) := by decide +kernel
theorem dX9_set_0 : decode cX9_set 0 = .ok (.iload_n 1, 1) := by decide +kernel
theorem dX9_set_1 : decode cX9_set 1 = .ok (.iconst 0, 1) := by decide +kernel
theorem dX9_set_2 : decode cX9_set 2 = .ok (.bipush 6, 2) := by decide +kernel
theorem dX9_set_4 : decode cX9_set 4 = .ok (.invokestatic 109, 3) := by decide +kernel
theorem dX9_set_7 : decode cX9_set 7 = .ok (.ifCond .eq 31, 3) := by decide +kernel
theorem dX9_set_10 : decode cX9_set 10 = .ok (.iload_n 2, 1) := by decide +kernel
theorem dX9_set_11 : decode cX9_set 11 = .ok (.iconst 0, 1) := by decide +kernel
theorem dX9_set_12 : decode cX9_set 12 = .ok (.aload_n 0, 1) := by decide +kernel
theorem dX9_set_13 : decode cX9_set 13 = .ok (.getfield 28, 3) := by decide +kernel
theorem dX9_set_16 : decode cX9_set 16 = .ok (.iload_n 1, 1) := by decide +kernel
theorem dX9_set_17 : decode cX9_set 17 = .ok (.iconst 0, 1) := by decide +kernel
theorem dX9_set_18 : decode cX9_set 18 = .ok (.bipush 6, 2) := by decide +kernel
theorem dX9_set_20 : decode cX9_set 20 = .ok (.invokestatic 109, 3) := by decide +kernel
theorem dX9_set_23 : decode cX9_set 23 = .ok (.ifCond .eq 7, 3) := by decide +kernel
theorem dX9_set_26 : decode cX9_set 26 = .ok (.iload_n 1, 1) := by decide +kernel
theorem dX9_set_27 : decode cX9_set 27 = .ok (.goto 4, 3) := by decide +kernel
theorem dX9_set_30 : decode cX9_set 30 = .ok (.iconst 0, 1) := by decide +kernel
theorem dX9_set_31 : decode cX9_set 31 = .ok (.iaload, 1) := by decide +kernel
theorem dX9_set_32 : decode cX9_set 32 = .ok (.invokestatic 109, 3) := by decide +kernel
theorem dX9_set_35 : decode cX9_set 35 = .ok (.ifCond .ne 5, 3) := by decide +kernel
theorem dX9_set_38 : decode cX9_set 38 = .ok (.iconst (-1), 1) := by decide +kernel
theorem dX9_set_39 : decode cX9_set 39 = .ok (.ireturn, 1) := by decide +kernel
theorem dX9_set_40 : decode cX9_set 40 = .ok (.aload_n 0, 1) := by decide +kernel
theorem dX9_set_41 : decode cX9_set 41 = .ok (.getfield 25, 3) := by decide +kernel
theorem dX9_set_44 : decode cX9_set 44 = .ok (.iload_n 1, 1) := by decide +kernel
theorem dX9_set_45 : decode cX9_set 45 = .ok (.iaload, 1) := by decide +kernel
theorem dX9_set_46 : decode cX9_set 46 = .ok (.istore_n 3, 1) := by decide +kernel
theorem dX9_set_47 : decode cX9_set 47 = .ok (.aload_n 0, 1) := by decide +kernel
theorem dX9_set_48 : decode cX9_set 48 = .ok (.getfield 25, 3) := by decide +kernel
theorem dX9_set_51 : decode cX9_set 51 = .ok (.iload_n 1, 1) := by decide +kernel
theorem dX9_set_52 : decode cX9_set 52 = .ok (.iload_n 2, 1) := by decide +kernel
theorem dX9_set_53 : decode cX9_set 53 = .ok (.iastore, 1) := by decide +kernel
theorem dX9_set_54 : decode cX9_set 54 = .ok (.iload_n 3, 1) := by decide +kernel
theorem dX9_set_55 : decode cX9_set 55 = .ok (.ireturn, 1) := by decide +kernel
theorem dX9_weighs_0 : decode cX9_weighs 0 = .ok (.iload_n 2, 1) := by decide +kernel
theorem dX9_weighs_1 : decode cX9_weighs 1 = .ok (.ifCond .le 9, 3) := by decide +kernel
theorem dX9_weighs_4 : decode cX9_weighs 4 = .ok (.iload_n 2, 1) := by decide +kernel
theorem dX9_weighs_5 : decode cX9_weighs 5 = .ok (.iconst 1, 1) := by decide +kernel
theorem dX9_weighs_6 : decode cX9_weighs 6 = .ok (.iadd, 1) := by decide +kernel
theorem dX9_weighs_7 : decode cX9_weighs 7 = .ok (.goto 4, 3) := by decide +kernel
theorem dX9_weighs_10 : decode cX9_weighs 10 = .ok (.iconst 0, 1) := by decide +kernel
theorem dX9_weighs_11 : decode cX9_weighs 11 = .ok (.istore_n 3, 1) := by decide +kernel
theorem dX9_weighs_12 : decode cX9_weighs 12 = .ok (.aload_n 0, 1) := by decide +kernel
theorem dX9_weighs_13 : decode cX9_weighs 13 = .ok (.iload_n 1, 1) := by decide +kernel
theorem dX9_weighs_14 : decode cX9_weighs 14 = .ok (.iconst 0, 1) := by decide +kernel
theorem dX9_weighs_15 : decode cX9_weighs 15 = .ok (.invokevirtual 235, 3) := by decide +kernel
theorem dX9_weighs_18 : decode cX9_weighs 18 = .ok (.tableswitch 72 1 5 #[34, 40, 36, 44, 60], 34) := by decide +kernel
theorem dX9_weighs_52 : decode cX9_weighs 52 = .ok (.iload_n 3, 1) := by decide +kernel
theorem dX9_weighs_53 : decode cX9_weighs 53 = .ok (.ireturn, 1) := by decide +kernel
theorem dX9_weighs_54 : decode cX9_weighs 54 = .ok (.iconst 2, 1) := by decide +kernel
theorem dX9_weighs_55 : decode cX9_weighs 55 = .ok (.iload_n 3, 1) := by decide +kernel
theorem dX9_weighs_56 : decode cX9_weighs 56 = .ok (.imul, 1) := by decide +kernel
theorem dX9_weighs_57 : decode cX9_weighs 57 = .ok (.ireturn, 1) := by decide +kernel
theorem dX9_weighs_58 : decode cX9_weighs 58 = .ok (.iload_n 2, 1) := by decide +kernel
theorem dX9_weighs_59 : decode cX9_weighs 59 = .ok (.iconst 2, 1) := by decide +kernel
theorem dX9_weighs_60 : decode cX9_weighs 60 = .ok (.idiv, 1) := by decide +kernel
theorem dX9_weighs_61 : decode cX9_weighs 61 = .ok (.ireturn, 1) := by decide +kernel
theorem dX9_weighs_62 : decode cX9_weighs 62 = .ok (.iload_n 2, 1) := by decide +kernel
theorem dX9_weighs_63 : decode cX9_weighs 63 = .ok (.iconst 2, 1) := by decide +kernel
theorem dX9_weighs_64 : decode cX9_weighs 64 = .ok (.idiv, 1) := by decide +kernel
theorem dX9_weighs_65 : decode cX9_weighs 65 = .ok (.ifCond .le 11, 3) := by decide +kernel
theorem dX9_weighs_68 : decode cX9_weighs 68 = .ok (.iload_n 2, 1) := by decide +kernel
theorem dX9_weighs_69 : decode cX9_weighs 69 = .ok (.iconst 2, 1) := by decide +kernel
theorem dX9_weighs_70 : decode cX9_weighs 70 = .ok (.idiv, 1) := by decide +kernel
theorem dX9_weighs_71 : decode cX9_weighs 71 = .ok (.iconst 1, 1) := by decide +kernel
theorem dX9_weighs_72 : decode cX9_weighs 72 = .ok (.isub, 1) := by decide +kernel
theorem dX9_weighs_73 : decode cX9_weighs 73 = .ok (.goto 4, 3) := by decide +kernel
theorem dX9_weighs_76 : decode cX9_weighs 76 = .ok (.iconst 0, 1) := by decide +kernel
theorem dX9_weighs_77 : decode cX9_weighs 77 = .ok (.ireturn, 1) := by decide +kernel
theorem dX9_weighs_78 : decode cX9_weighs 78 = .ok (.iload_n 2, 1) := by decide +kernel
theorem dX9_weighs_79 : decode cX9_weighs 79 = .ok (.aload_n 0, 1) := by decide +kernel
theorem dX9_weighs_80 : decode cX9_weighs 80 = .ok (.iload_n 1, 1) := by decide +kernel
theorem dX9_weighs_81 : decode cX9_weighs 81 = .ok (.iconst 4, 1) := by decide +kernel
theorem dX9_weighs_82 : decode cX9_weighs 82 = .ok (.invokevirtual 235, 3) := by decide +kernel
theorem dX9_weighs_85 : decode cX9_weighs 85 = .ok (.bipush 10, 2) := by decide +kernel
theorem dX9_weighs_87 : decode cX9_weighs 87 = .ok (.idiv, 1) := by decide +kernel
theorem dX9_weighs_88 : decode cX9_weighs 88 = .ok (.iadd, 1) := by decide +kernel
theorem dX9_weighs_89 : decode cX9_weighs 89 = .ok (.ireturn, 1) := by decide +kernel
theorem dX9_weighs_90 : decode cX9_weighs 90 = .ok (.iload_n 2, 1) := by decide +kernel
theorem dX9_weighs_91 : decode cX9_weighs 91 = .ok (.ireturn, 1) := by decide +kernel
theorem dX9_strengthOf_0 : decode cX9_strengthOf 0 = .ok (.iload_n 1, 1) := by decide +kernel
theorem dX9_strengthOf_1 : decode cX9_strengthOf 1 = .ok (.iload_n 2, 1) := by decide +kernel
theorem dX9_strengthOf_2 : decode cX9_strengthOf 2 = .ok (.if_icmp .ge 7, 3) := by decide +kernel
theorem dX9_strengthOf_5 : decode cX9_strengthOf 5 = .ok (.iload_n 1, 1) := by decide +kernel
theorem dX9_strengthOf_6 : decode cX9_strengthOf 6 = .ok (.goto 4, 3) := by decide +kernel
theorem dX9_strengthOf_9 : decode cX9_strengthOf 9 = .ok (.iload_n 2, 1) := by decide +kernel
theorem dX9_strengthOf_10 : decode cX9_strengthOf 10 = .ok (.istore_n 3, 1) := by decide +kernel
theorem dX9_strengthOf_11 : decode cX9_strengthOf 11 = .ok (.iload_n 1, 1) := by decide +kernel
theorem dX9_strengthOf_12 : decode cX9_strengthOf 12 = .ok (.iload_n 2, 1) := by decide +kernel
theorem dX9_strengthOf_13 : decode cX9_strengthOf 13 = .ok (.if_icmp .ge 7, 3) := by decide +kernel
theorem dX9_strengthOf_16 : decode cX9_strengthOf 16 = .ok (.iload_n 2, 1) := by decide +kernel
theorem dX9_strengthOf_17 : decode cX9_strengthOf 17 = .ok (.goto 4, 3) := by decide +kernel
theorem dX9_strengthOf_20 : decode cX9_strengthOf 20 = .ok (.iload_n 1, 1) := by decide +kernel
theorem dX9_strengthOf_21 : decode cX9_strengthOf 21 = .ok (.istore 4, 2) := by decide +kernel
theorem dX9_strengthOf_23 : decode cX9_strengthOf 23 = .ok (.iconst 0, 1) := by decide +kernel
theorem dX9_strengthOf_24 : decode cX9_strengthOf 24 = .ok (.istore 5, 2) := by decide +kernel
theorem dX9_strengthOf_26 : decode cX9_strengthOf 26 = .ok (.iconst 0, 1) := by decide +kernel
theorem dX9_strengthOf_27 : decode cX9_strengthOf 27 = .ok (.istore 6, 2) := by decide +kernel
theorem dX9_strengthOf_29 : decode cX9_strengthOf 29 = .ok (.iload 6, 2) := by decide +kernel
theorem dX9_strengthOf_31 : decode cX9_strengthOf 31 = .ok (.iconst 4, 1) := by decide +kernel
theorem dX9_strengthOf_32 : decode cX9_strengthOf 32 = .ok (.if_icmp .ge 107, 3) := by decide +kernel
theorem dX9_strengthOf_35 : decode cX9_strengthOf 35 = .ok (.iconst 0, 1) := by decide +kernel
theorem dX9_strengthOf_36 : decode cX9_strengthOf 36 = .ok (.istore 7, 2) := by decide +kernel
theorem dX9_strengthOf_38 : decode cX9_strengthOf 38 = .ok (.iload 7, 2) := by decide +kernel
theorem dX9_strengthOf_40 : decode cX9_strengthOf 40 = .ok (.iconst 4, 1) := by decide +kernel
theorem dX9_strengthOf_41 : decode cX9_strengthOf 41 = .ok (.if_icmp .ge 92, 3) := by decide +kernel
theorem dX9_strengthOf_44 : decode cX9_strengthOf 44 = .ok (.aload_n 0, 1) := by decide +kernel
theorem dX9_strengthOf_45 : decode cX9_strengthOf 45 = .ok (.iload_n 3, 1) := by decide +kernel
theorem dX9_strengthOf_46 : decode cX9_strengthOf 46 = .ok (.iload 6, 2) := by decide +kernel
theorem dX9_strengthOf_48 : decode cX9_strengthOf 48 = .ok (.invokevirtual 239, 3) := by decide +kernel
theorem dX9_strengthOf_51 : decode cX9_strengthOf 51 = .ok (.istore 8, 2) := by decide +kernel
theorem dX9_strengthOf_53 : decode cX9_strengthOf 53 = .ok (.iload 8, 2) := by decide +kernel
theorem dX9_strengthOf_55 : decode cX9_strengthOf 55 = .ok (.ifCond .lt 20, 3) := by decide +kernel
theorem dX9_strengthOf_58 : decode cX9_strengthOf 58 = .ok (.iload 8, 2) := by decide +kernel
theorem dX9_strengthOf_60 : decode cX9_strengthOf 60 = .ok (.aload_n 0, 1) := by decide +kernel
theorem dX9_strengthOf_61 : decode cX9_strengthOf 61 = .ok (.iload 4, 2) := by decide +kernel
theorem dX9_strengthOf_63 : decode cX9_strengthOf 63 = .ok (.iload 7, 2) := by decide +kernel
theorem dX9_strengthOf_65 : decode cX9_strengthOf 65 = .ok (.invokevirtual 239, 3) := by decide +kernel
theorem dX9_strengthOf_68 : decode cX9_strengthOf 68 = .ok (.if_icmp .ne 7, 3) := by decide +kernel
theorem dX9_strengthOf_71 : decode cX9_strengthOf 71 = .ok (.iconst 1, 1) := by decide +kernel
theorem dX9_strengthOf_72 : decode cX9_strengthOf 72 = .ok (.goto 4, 3) := by decide +kernel
theorem dX9_strengthOf_75 : decode cX9_strengthOf 75 = .ok (.iconst 0, 1) := by decide +kernel
theorem dX9_strengthOf_76 : decode cX9_strengthOf 76 = .ok (.istore 9, 2) := by decide +kernel
theorem dX9_strengthOf_78 : decode cX9_strengthOf 78 = .ok (.iload 9, 2) := by decide +kernel
theorem dX9_strengthOf_80 : decode cX9_strengthOf 80 = .ok (.ifCond .eq 47, 3) := by decide +kernel
theorem dX9_strengthOf_83 : decode cX9_strengthOf 83 = .ok (.aload_n 0, 1) := by decide +kernel
theorem dX9_strengthOf_84 : decode cX9_strengthOf 84 = .ok (.iload 8, 2) := by decide +kernel
theorem dX9_strengthOf_86 : decode cX9_strengthOf 86 = .ok (.invokevirtual 248, 3) := by decide +kernel
theorem dX9_strengthOf_89 : decode cX9_strengthOf 89 = .ok (.ifCond .ne 38, 3) := by decide +kernel
theorem dX9_strengthOf_92 : decode cX9_strengthOf 92 = .ok (.iload 5, 2) := by decide +kernel
theorem dX9_strengthOf_94 : decode cX9_strengthOf 94 = .ok (.aload_n 0, 1) := by decide +kernel
theorem dX9_strengthOf_95 : decode cX9_strengthOf 95 = .ok (.getfield 25, 3) := by decide +kernel
theorem dX9_strengthOf_98 : decode cX9_strengthOf 98 = .ok (.iload 6, 2) := by decide +kernel
theorem dX9_strengthOf_100 : decode cX9_strengthOf 100 = .ok (.iload 7, 2) := by decide +kernel
theorem dX9_strengthOf_102 : decode cX9_strengthOf 102 = .ok (.if_icmp .ne 7, 3) := by decide +kernel
theorem dX9_strengthOf_105 : decode cX9_strengthOf 105 = .ok (.iconst 0, 1) := by decide +kernel
theorem dX9_strengthOf_106 : decode cX9_strengthOf 106 = .ok (.goto 17, 3) := by decide +kernel
theorem dX9_strengthOf_109 : decode cX9_strengthOf 109 = .ok (.iload 6, 2) := by decide +kernel
theorem dX9_strengthOf_111 : decode cX9_strengthOf 111 = .ok (.iload 7, 2) := by decide +kernel
theorem dX9_strengthOf_113 : decode cX9_strengthOf 113 = .ok (.iadd, 1) := by decide +kernel
theorem dX9_strengthOf_114 : decode cX9_strengthOf 114 = .ok (.iconst 1, 1) := by decide +kernel
theorem dX9_strengthOf_115 : decode cX9_strengthOf 115 = .ok (.if_icmp .ne 7, 3) := by decide +kernel
theorem dX9_strengthOf_118 : decode cX9_strengthOf 118 = .ok (.iconst 1, 1) := by decide +kernel
theorem dX9_strengthOf_119 : decode cX9_strengthOf 119 = .ok (.goto 4, 3) := by decide +kernel
theorem dX9_strengthOf_122 : decode cX9_strengthOf 122 = .ok (.iconst 2, 1) := by decide +kernel
theorem dX9_strengthOf_123 : decode cX9_strengthOf 123 = .ok (.iaload, 1) := by decide +kernel
theorem dX9_strengthOf_124 : decode cX9_strengthOf 124 = .ok (.iadd, 1) := by decide +kernel
theorem dX9_strengthOf_125 : decode cX9_strengthOf 125 = .ok (.istore 5, 2) := by decide +kernel
theorem dX9_strengthOf_127 : decode cX9_strengthOf 127 = .ok (.iinc 7 1, 3) := by decide +kernel
theorem dX9_strengthOf_130 : decode cX9_strengthOf 130 = .ok (.goto (-92), 3) := by decide +kernel
theorem dX9_strengthOf_133 : decode cX9_strengthOf 133 = .ok (.iinc 6 1, 3) := by decide +kernel
theorem dX9_strengthOf_136 : decode cX9_strengthOf 136 = .ok (.goto (-107), 3) := by decide +kernel
theorem dX9_strengthOf_139 : decode cX9_strengthOf 139 = .ok (.iload 5, 2) := by decide +kernel
theorem dX9_strengthOf_141 : decode cX9_strengthOf 141 = .ok (.aload_n 0, 1) := by decide +kernel
theorem dX9_strengthOf_142 : decode cX9_strengthOf 142 = .ok (.iload_n 3, 1) := by decide +kernel
theorem dX9_strengthOf_143 : decode cX9_strengthOf 143 = .ok (.iconst 3, 1) := by decide +kernel
theorem dX9_strengthOf_144 : decode cX9_strengthOf 144 = .ok (.invokevirtual 235, 3) := by decide +kernel
theorem dX9_strengthOf_147 : decode cX9_strengthOf 147 = .ok (.ifCond .eq 28, 3) := by decide +kernel
theorem dX9_strengthOf_150 : decode cX9_strengthOf 150 = .ok (.aload_n 0, 1) := by decide +kernel
theorem dX9_strengthOf_151 : decode cX9_strengthOf 151 = .ok (.iload_n 3, 1) := by decide +kernel
theorem dX9_strengthOf_152 : decode cX9_strengthOf 152 = .ok (.iconst 3, 1) := by decide +kernel
theorem dX9_strengthOf_153 : decode cX9_strengthOf 153 = .ok (.invokevirtual 235, 3) := by decide +kernel
theorem dX9_strengthOf_156 : decode cX9_strengthOf 156 = .ok (.aload_n 0, 1) := by decide +kernel
theorem dX9_strengthOf_157 : decode cX9_strengthOf 157 = .ok (.iload 4, 2) := by decide +kernel
theorem dX9_strengthOf_159 : decode cX9_strengthOf 159 = .ok (.iconst 3, 1) := by decide +kernel
theorem dX9_strengthOf_160 : decode cX9_strengthOf 160 = .ok (.invokevirtual 235, 3) := by decide +kernel
theorem dX9_strengthOf_163 : decode cX9_strengthOf 163 = .ok (.if_icmp .ne 12, 3) := by decide +kernel
theorem dX9_strengthOf_166 : decode cX9_strengthOf 166 = .ok (.aload_n 0, 1) := by decide +kernel
theorem dX9_strengthOf_167 : decode cX9_strengthOf 167 = .ok (.getfield 25, 3) := by decide +kernel
theorem dX9_strengthOf_170 : decode cX9_strengthOf 170 = .ok (.iconst 3, 1) := by decide +kernel
theorem dX9_strengthOf_171 : decode cX9_strengthOf 171 = .ok (.iaload, 1) := by decide +kernel
theorem dX9_strengthOf_172 : decode cX9_strengthOf 172 = .ok (.goto 4, 3) := by decide +kernel
theorem dX9_strengthOf_175 : decode cX9_strengthOf 175 = .ok (.iconst 0, 1) := by decide +kernel
theorem dX9_strengthOf_176 : decode cX9_strengthOf 176 = .ok (.iadd, 1) := by decide +kernel
theorem dX9_strengthOf_177 : decode cX9_strengthOf 177 = .ok (.istore 5, 2) := by decide +kernel
theorem dX9_strengthOf_179 : decode cX9_strengthOf 179 = .ok (.aload_n 0, 1) := by decide +kernel
theorem dX9_strengthOf_180 : decode cX9_strengthOf 180 = .ok (.iload 4, 2) := by decide +kernel
theorem dX9_strengthOf_182 : decode cX9_strengthOf 182 = .ok (.aload_n 0, 1) := by decide +kernel
theorem dX9_strengthOf_183 : decode cX9_strengthOf 183 = .ok (.iload_n 3, 1) := by decide +kernel
theorem dX9_strengthOf_184 : decode cX9_strengthOf 184 = .ok (.iload 5, 2) := by decide +kernel
theorem dX9_strengthOf_186 : decode cX9_strengthOf 186 = .ok (.invokevirtual 260, 3) := by decide +kernel
theorem dX9_strengthOf_189 : decode cX9_strengthOf 189 = .ok (.invokevirtual 260, 3) := by decide +kernel
theorem dX9_strengthOf_192 : decode cX9_strengthOf 192 = .ok (.ireturn, 1) := by decide +kernel
theorem dX9_tie_0 : decode cX9_tie 0 = .ok (.aload_n 0, 1) := by decide +kernel
theorem dX9_tie_1 : decode cX9_tie 1 = .ok (.iload_n 1, 1) := by decide +kernel
theorem dX9_tie_2 : decode cX9_tie 2 = .ok (.invokevirtual 254, 3) := by decide +kernel
theorem dX9_tie_5 : decode cX9_tie 5 = .ok (.ifCond .eq 25, 3) := by decide +kernel
theorem dX9_tie_8 : decode cX9_tie 8 = .ok (.aload_n 0, 1) := by decide +kernel
theorem dX9_tie_9 : decode cX9_tie 9 = .ok (.iload_n 2, 1) := by decide +kernel
theorem dX9_tie_10 : decode cX9_tie 10 = .ok (.invokevirtual 254, 3) := by decide +kernel
theorem dX9_tie_13 : decode cX9_tie 13 = .ok (.ifCond .eq 17, 3) := by decide +kernel
theorem dX9_tie_16 : decode cX9_tie 16 = .ok (.iload_n 1, 1) := by decide +kernel
theorem dX9_tie_17 : decode cX9_tie 17 = .ok (.iload_n 2, 1) := by decide +kernel
theorem dX9_tie_18 : decode cX9_tie 18 = .ok (.if_icmp .eq 12, 3) := by decide +kernel
theorem dX9_tie_21 : decode cX9_tie 21 = .ok (.aload_n 0, 1) := by decide +kernel
theorem dX9_tie_22 : decode cX9_tie 22 = .ok (.iload_n 1, 1) := by decide +kernel
theorem dX9_tie_23 : decode cX9_tie 23 = .ok (.iload_n 2, 1) := by decide +kernel
theorem dX9_tie_24 : decode cX9_tie 24 = .ok (.invokevirtual 263, 3) := by decide +kernel
theorem dX9_tie_27 : decode cX9_tie 27 = .ok (.goto 4, 3) := by decide +kernel
theorem dX9_tie_30 : decode cX9_tie 30 = .ok (.iconst (-1), 1) := by decide +kernel
theorem dX9_tie_31 : decode cX9_tie 31 = .ok (.ireturn, 1) := by decide +kernel
theorem dX9_tiedTo_0 : decode cX9_tiedTo 0 = .ok (.iconst 0, 1) := by decide +kernel
theorem dX9_tiedTo_1 : decode cX9_tiedTo 1 = .ok (.istore_n 2, 1) := by decide +kernel
theorem dX9_tiedTo_2 : decode cX9_tiedTo 2 = .ok (.iconst 0, 1) := by decide +kernel
theorem dX9_tiedTo_3 : decode cX9_tiedTo 3 = .ok (.istore_n 3, 1) := by decide +kernel
theorem dX9_tiedTo_4 : decode cX9_tiedTo 4 = .ok (.iload_n 3, 1) := by decide +kernel
theorem dX9_tiedTo_5 : decode cX9_tiedTo 5 = .ok (.aload_n 0, 1) := by decide +kernel
theorem dX9_tiedTo_6 : decode cX9_tiedTo 6 = .ok (.getfield 113, 3) := by decide +kernel
theorem dX9_tiedTo_9 : decode cX9_tiedTo 9 = .ok (.if_icmp .ge 33, 3) := by decide +kernel
theorem dX9_tiedTo_12 : decode cX9_tiedTo 12 = .ok (.iload_n 2, 1) := by decide +kernel
theorem dX9_tiedTo_13 : decode cX9_tiedTo 13 = .ok (.iload_n 3, 1) := by decide +kernel
theorem dX9_tiedTo_14 : decode cX9_tiedTo 14 = .ok (.iload_n 1, 1) := by decide +kernel
theorem dX9_tiedTo_15 : decode cX9_tiedTo 15 = .ok (.if_icmp .eq 18, 3) := by decide +kernel
theorem dX9_tiedTo_18 : decode cX9_tiedTo 18 = .ok (.aload_n 0, 1) := by decide +kernel
theorem dX9_tiedTo_19 : decode cX9_tiedTo 19 = .ok (.iload_n 3, 1) := by decide +kernel
theorem dX9_tiedTo_20 : decode cX9_tiedTo 20 = .ok (.iload_n 1, 1) := by decide +kernel
theorem dX9_tiedTo_21 : decode cX9_tiedTo 21 = .ok (.invokevirtual 263, 3) := by decide +kernel
theorem dX9_tiedTo_24 : decode cX9_tiedTo 24 = .ok (.ifCond .le 9, 3) := by decide +kernel
theorem dX9_tiedTo_27 : decode cX9_tiedTo 27 = .ok (.iconst 1, 1) := by decide +kernel
theorem dX9_tiedTo_28 : decode cX9_tiedTo 28 = .ok (.iload_n 3, 1) := by decide +kernel
theorem dX9_tiedTo_29 : decode cX9_tiedTo 29 = .ok (.ishl, 1) := by decide +kernel
theorem dX9_tiedTo_30 : decode cX9_tiedTo 30 = .ok (.goto 4, 3) := by decide +kernel
theorem dX9_tiedTo_33 : decode cX9_tiedTo 33 = .ok (.iconst 0, 1) := by decide +kernel
theorem dX9_tiedTo_34 : decode cX9_tiedTo 34 = .ok (.ior, 1) := by decide +kernel
theorem dX9_tiedTo_35 : decode cX9_tiedTo 35 = .ok (.istore_n 2, 1) := by decide +kernel
theorem dX9_tiedTo_36 : decode cX9_tiedTo 36 = .ok (.iinc 3 1, 3) := by decide +kernel
theorem dX9_tiedTo_39 : decode cX9_tiedTo 39 = .ok (.goto (-35), 3) := by decide +kernel
theorem dX9_tiedTo_42 : decode cX9_tiedTo 42 = .ok (.iload_n 2, 1) := by decide +kernel
theorem dX9_tiedTo_43 : decode cX9_tiedTo 43 = .ok (.ireturn, 1) := by decide +kernel
theorem dX9_tied_0 : decode cX9_tied 0 = .ok (.aload_n 0, 1) := by decide +kernel
theorem dX9_tied_1 : decode cX9_tied 1 = .ok (.iload_n 1, 1) := by decide +kernel
theorem dX9_tied_2 : decode cX9_tied 2 = .ok (.invokevirtual 254, 3) := by decide +kernel
theorem dX9_tied_5 : decode cX9_tied 5 = .ok (.ifCond .eq 11, 3) := by decide +kernel
theorem dX9_tied_8 : decode cX9_tied 8 = .ok (.aload_n 0, 1) := by decide +kernel
theorem dX9_tied_9 : decode cX9_tied 9 = .ok (.iload_n 1, 1) := by decide +kernel
theorem dX9_tied_10 : decode cX9_tied 10 = .ok (.invokevirtual 266, 3) := by decide +kernel
theorem dX9_tied_13 : decode cX9_tied 13 = .ok (.goto 4, 3) := by decide +kernel
theorem dX9_tied_16 : decode cX9_tied 16 = .ok (.iconst (-1), 1) := by decide +kernel
theorem dX9_tied_17 : decode cX9_tied 17 = .ok (.ireturn, 1) := by decide +kernel
theorem dX9_hang_0 : decode cX9_hang 0 = .ok (.aload_n 0, 1) := by decide +kernel
theorem dX9_hang_1 : decode cX9_hang 1 = .ok (.iload_n 1, 1) := by decide +kernel
theorem dX9_hang_2 : decode cX9_hang 2 = .ok (.invokevirtual 254, 3) := by decide +kernel
theorem dX9_hang_5 : decode cX9_hang 5 = .ok (.ifCond .ne 5, 3) := by decide +kernel
theorem dX9_hang_8 : decode cX9_hang 8 = .ok (.iconst (-1), 1) := by decide +kernel
theorem dX9_hang_9 : decode cX9_hang 9 = .ok (.ireturn, 1) := by decide +kernel
theorem dX9_hang_10 : decode cX9_hang 10 = .ok (.iconst 0, 1) := by decide +kernel
theorem dX9_hang_11 : decode cX9_hang 11 = .ok (.istore_n 2, 1) := by decide +kernel
theorem dX9_hang_12 : decode cX9_hang 12 = .ok (.iconst 1, 1) := by decide +kernel
theorem dX9_hang_13 : decode cX9_hang 13 = .ok (.iload_n 1, 1) := by decide +kernel
theorem dX9_hang_14 : decode cX9_hang 14 = .ok (.ishl, 1) := by decide +kernel
theorem dX9_hang_15 : decode cX9_hang 15 = .ok (.istore_n 3, 1) := by decide +kernel
theorem dX9_hang_16 : decode cX9_hang 16 = .ok (.iload_n 3, 1) := by decide +kernel
theorem dX9_hang_17 : decode cX9_hang 17 = .ok (.iload_n 2, 1) := by decide +kernel
theorem dX9_hang_18 : decode cX9_hang 18 = .ok (.if_icmp .eq 49, 3) := by decide +kernel
theorem dX9_hang_21 : decode cX9_hang 21 = .ok (.iload_n 3, 1) := by decide +kernel
theorem dX9_hang_22 : decode cX9_hang 22 = .ok (.istore_n 2, 1) := by decide +kernel
theorem dX9_hang_23 : decode cX9_hang 23 = .ok (.iconst 0, 1) := by decide +kernel
theorem dX9_hang_24 : decode cX9_hang 24 = .ok (.istore 4, 2) := by decide +kernel
theorem dX9_hang_26 : decode cX9_hang 26 = .ok (.iload 4, 2) := by decide +kernel
theorem dX9_hang_28 : decode cX9_hang 28 = .ok (.aload_n 0, 1) := by decide +kernel
theorem dX9_hang_29 : decode cX9_hang 29 = .ok (.getfield 113, 3) := by decide +kernel
theorem dX9_hang_32 : decode cX9_hang 32 = .ok (.if_icmp .ge 32, 3) := by decide +kernel
theorem dX9_hang_35 : decode cX9_hang 35 = .ok (.iload_n 3, 1) := by decide +kernel
theorem dX9_hang_36 : decode cX9_hang 36 = .ok (.iload_n 2, 1) := by decide +kernel
theorem dX9_hang_37 : decode cX9_hang 37 = .ok (.iload 4, 2) := by decide +kernel
theorem dX9_hang_39 : decode cX9_hang 39 = .ok (.ishr, 1) := by decide +kernel
theorem dX9_hang_40 : decode cX9_hang 40 = .ok (.iconst 1, 1) := by decide +kernel
theorem dX9_hang_41 : decode cX9_hang 41 = .ok (.iand, 1) := by decide +kernel
theorem dX9_hang_42 : decode cX9_hang 42 = .ok (.iconst 1, 1) := by decide +kernel
theorem dX9_hang_43 : decode cX9_hang 43 = .ok (.if_icmp .ne 12, 3) := by decide +kernel
theorem dX9_hang_46 : decode cX9_hang 46 = .ok (.aload_n 0, 1) := by decide +kernel
theorem dX9_hang_47 : decode cX9_hang 47 = .ok (.iload 4, 2) := by decide +kernel
theorem dX9_hang_49 : decode cX9_hang 49 = .ok (.invokevirtual 266, 3) := by decide +kernel
theorem dX9_hang_52 : decode cX9_hang 52 = .ok (.goto 4, 3) := by decide +kernel
theorem dX9_hang_55 : decode cX9_hang 55 = .ok (.iconst 0, 1) := by decide +kernel
theorem dX9_hang_56 : decode cX9_hang 56 = .ok (.ior, 1) := by decide +kernel
theorem dX9_hang_57 : decode cX9_hang 57 = .ok (.istore_n 3, 1) := by decide +kernel
theorem dX9_hang_58 : decode cX9_hang 58 = .ok (.iinc 4 1, 3) := by decide +kernel
theorem dX9_hang_61 : decode cX9_hang 61 = .ok (.goto (-35), 3) := by decide +kernel
theorem dX9_hang_64 : decode cX9_hang 64 = .ok (.goto (-48), 3) := by decide +kernel
theorem dX9_hang_67 : decode cX9_hang 67 = .ok (.iload_n 3, 1) := by decide +kernel
theorem dX9_hang_68 : decode cX9_hang 68 = .ok (.ireturn, 1) := by decide +kernel
theorem dX9_onesIn_0 : decode cX9_onesIn 0 = .ok (.iconst 0, 1) := by decide +kernel
theorem dX9_onesIn_1 : decode cX9_onesIn 1 = .ok (.istore_n 2, 1) := by decide +kernel
theorem dX9_onesIn_2 : decode cX9_onesIn 2 = .ok (.iconst 0, 1) := by decide +kernel
theorem dX9_onesIn_3 : decode cX9_onesIn 3 = .ok (.istore_n 3, 1) := by decide +kernel
theorem dX9_onesIn_4 : decode cX9_onesIn 4 = .ok (.iload_n 3, 1) := by decide +kernel
theorem dX9_onesIn_5 : decode cX9_onesIn 5 = .ok (.iconst 4, 1) := by decide +kernel
theorem dX9_onesIn_6 : decode cX9_onesIn 6 = .ok (.if_icmp .ge 33, 3) := by decide +kernel
theorem dX9_onesIn_9 : decode cX9_onesIn 9 = .ok (.iload_n 2, 1) := by decide +kernel
theorem dX9_onesIn_10 : decode cX9_onesIn 10 = .ok (.aload_n 0, 1) := by decide +kernel
theorem dX9_onesIn_11 : decode cX9_onesIn 11 = .ok (.iload_n 1, 1) := by decide +kernel
theorem dX9_onesIn_12 : decode cX9_onesIn 12 = .ok (.iload_n 3, 1) := by decide +kernel
theorem dX9_onesIn_13 : decode cX9_onesIn 13 = .ok (.invokevirtual 239, 3) := by decide +kernel
theorem dX9_onesIn_16 : decode cX9_onesIn 16 = .ok (.ifCond .lt 14, 3) := by decide +kernel
theorem dX9_onesIn_19 : decode cX9_onesIn 19 = .ok (.iconst 1, 1) := by decide +kernel
theorem dX9_onesIn_20 : decode cX9_onesIn 20 = .ok (.aload_n 0, 1) := by decide +kernel
theorem dX9_onesIn_21 : decode cX9_onesIn 21 = .ok (.iload_n 1, 1) := by decide +kernel
theorem dX9_onesIn_22 : decode cX9_onesIn 22 = .ok (.iload_n 3, 1) := by decide +kernel
theorem dX9_onesIn_23 : decode cX9_onesIn 23 = .ok (.invokevirtual 239, 3) := by decide +kernel
theorem dX9_onesIn_26 : decode cX9_onesIn 26 = .ok (.ishl, 1) := by decide +kernel
theorem dX9_onesIn_27 : decode cX9_onesIn 27 = .ok (.goto 4, 3) := by decide +kernel
theorem dX9_onesIn_30 : decode cX9_onesIn 30 = .ok (.iconst 0, 1) := by decide +kernel
theorem dX9_onesIn_31 : decode cX9_onesIn 31 = .ok (.ior, 1) := by decide +kernel
theorem dX9_onesIn_32 : decode cX9_onesIn 32 = .ok (.istore_n 2, 1) := by decide +kernel
theorem dX9_onesIn_33 : decode cX9_onesIn 33 = .ok (.iinc 3 1, 3) := by decide +kernel
theorem dX9_onesIn_36 : decode cX9_onesIn 36 = .ok (.goto (-32), 3) := by decide +kernel
theorem dX9_onesIn_39 : decode cX9_onesIn 39 = .ok (.iload_n 2, 1) := by decide +kernel
theorem dX9_onesIn_40 : decode cX9_onesIn 40 = .ok (.ireturn, 1) := by decide +kernel
theorem dX9_steps_0 : decode cX9_steps 0 = .ok (.aload_n 0, 1) := by decide +kernel
theorem dX9_steps_1 : decode cX9_steps 1 = .ok (.iload_n 1, 1) := by decide +kernel
theorem dX9_steps_2 : decode cX9_steps 2 = .ok (.invokevirtual 245, 3) := by decide +kernel
theorem dX9_steps_5 : decode cX9_steps 5 = .ok (.ifCond .eq 11, 3) := by decide +kernel
theorem dX9_steps_8 : decode cX9_steps 8 = .ok (.aload_n 0, 1) := by decide +kernel
theorem dX9_steps_9 : decode cX9_steps 9 = .ok (.iload_n 2, 1) := by decide +kernel
theorem dX9_steps_10 : decode cX9_steps 10 = .ok (.invokevirtual 245, 3) := by decide +kernel
theorem dX9_steps_13 : decode cX9_steps 13 = .ok (.ifCond .ne 5, 3) := by decide +kernel
theorem dX9_steps_16 : decode cX9_steps 16 = .ok (.iconst (-1), 1) := by decide +kernel
theorem dX9_steps_17 : decode cX9_steps 17 = .ok (.ireturn, 1) := by decide +kernel
theorem dX9_steps_18 : decode cX9_steps 18 = .ok (.aload_n 0, 1) := by decide +kernel
theorem dX9_steps_19 : decode cX9_steps 19 = .ok (.getfield 19, 3) := by decide +kernel
theorem dX9_steps_22 : decode cX9_steps 22 = .ok (.iload_n 1, 1) := by decide +kernel
theorem dX9_steps_23 : decode cX9_steps 23 = .ok (.iaload, 1) := by decide +kernel
theorem dX9_steps_24 : decode cX9_steps 24 = .ok (.istore_n 3, 1) := by decide +kernel
theorem dX9_steps_25 : decode cX9_steps 25 = .ok (.aload_n 0, 1) := by decide +kernel
theorem dX9_steps_26 : decode cX9_steps 26 = .ok (.getfield 19, 3) := by decide +kernel
theorem dX9_steps_29 : decode cX9_steps 29 = .ok (.iload_n 2, 1) := by decide +kernel
theorem dX9_steps_30 : decode cX9_steps 30 = .ok (.iaload, 1) := by decide +kernel
theorem dX9_steps_31 : decode cX9_steps 31 = .ok (.istore 4, 2) := by decide +kernel
theorem dX9_steps_33 : decode cX9_steps 33 = .ok (.iload_n 3, 1) := by decide +kernel
theorem dX9_steps_34 : decode cX9_steps 34 = .ok (.iload 4, 2) := by decide +kernel
theorem dX9_steps_36 : decode cX9_steps 36 = .ok (.if_icmp .ne 5, 3) := by decide +kernel
theorem dX9_steps_39 : decode cX9_steps 39 = .ok (.iconst 0, 1) := by decide +kernel
theorem dX9_steps_40 : decode cX9_steps 40 = .ok (.ireturn, 1) := by decide +kernel
theorem dX9_steps_41 : decode cX9_steps 41 = .ok (.iconst 0, 1) := by decide +kernel
theorem dX9_steps_42 : decode cX9_steps 42 = .ok (.istore 5, 2) := by decide +kernel
theorem dX9_steps_44 : decode cX9_steps 44 = .ok (.iconst 0, 1) := by decide +kernel
theorem dX9_steps_45 : decode cX9_steps 45 = .ok (.istore 6, 2) := by decide +kernel
theorem dX9_steps_47 : decode cX9_steps 47 = .ok (.iload 6, 2) := by decide +kernel
theorem dX9_steps_49 : decode cX9_steps 49 = .ok (.aload_n 0, 1) := by decide +kernel
theorem dX9_steps_50 : decode cX9_steps 50 = .ok (.getfield 106, 3) := by decide +kernel
theorem dX9_steps_53 : decode cX9_steps 53 = .ok (.if_icmp .ge 31, 3) := by decide +kernel
theorem dX9_steps_56 : decode cX9_steps 56 = .ok (.iload 5, 2) := by decide +kernel
theorem dX9_steps_58 : decode cX9_steps 58 = .ok (.aload_n 0, 1) := by decide +kernel
theorem dX9_steps_59 : decode cX9_steps 59 = .ok (.iload 6, 2) := by decide +kernel
theorem dX9_steps_61 : decode cX9_steps 61 = .ok (.invokevirtual 248, 3) := by decide +kernel
theorem dX9_steps_64 : decode cX9_steps 64 = .ok (.ifCond .eq 10, 3) := by decide +kernel
theorem dX9_steps_67 : decode cX9_steps 67 = .ok (.iconst 1, 1) := by decide +kernel
theorem dX9_steps_68 : decode cX9_steps 68 = .ok (.iload 6, 2) := by decide +kernel
theorem dX9_steps_70 : decode cX9_steps 70 = .ok (.ishl, 1) := by decide +kernel
theorem dX9_steps_71 : decode cX9_steps 71 = .ok (.goto 4, 3) := by decide +kernel
theorem dX9_steps_74 : decode cX9_steps 74 = .ok (.iconst 0, 1) := by decide +kernel
theorem dX9_steps_75 : decode cX9_steps 75 = .ok (.ior, 1) := by decide +kernel
theorem dX9_steps_76 : decode cX9_steps 76 = .ok (.istore 5, 2) := by decide +kernel
theorem dX9_steps_78 : decode cX9_steps 78 = .ok (.iinc 6 1, 3) := by decide +kernel
theorem dX9_steps_81 : decode cX9_steps 81 = .ok (.goto (-34), 3) := by decide +kernel
theorem dX9_steps_84 : decode cX9_steps 84 = .ok (.iconst 1, 1) := by decide +kernel
theorem dX9_steps_85 : decode cX9_steps 85 = .ok (.iload_n 3, 1) := by decide +kernel
theorem dX9_steps_86 : decode cX9_steps 86 = .ok (.ishl, 1) := by decide +kernel
theorem dX9_steps_87 : decode cX9_steps 87 = .ok (.istore 6, 2) := by decide +kernel
theorem dX9_steps_89 : decode cX9_steps 89 = .ok (.iconst 1, 1) := by decide +kernel
theorem dX9_steps_90 : decode cX9_steps 90 = .ok (.istore 7, 2) := by decide +kernel
theorem dX9_steps_92 : decode cX9_steps 92 = .ok (.iload 7, 2) := by decide +kernel
theorem dX9_steps_94 : decode cX9_steps 94 = .ok (.bipush 12, 2) := by decide +kernel
theorem dX9_steps_96 : decode cX9_steps 96 = .ok (.if_icmp .ge 88, 3) := by decide +kernel
theorem dX9_steps_99 : decode cX9_steps 99 = .ok (.iload 7, 2) := by decide +kernel
theorem dX9_steps_101 : decode cX9_steps 101 = .ok (.iconst 1, 1) := by decide +kernel
theorem dX9_steps_102 : decode cX9_steps 102 = .ok (.if_icmp .ne 8, 3) := by decide +kernel
theorem dX9_steps_105 : decode cX9_steps 105 = .ok (.iload 6, 2) := by decide +kernel
theorem dX9_steps_107 : decode cX9_steps 107 = .ok (.goto 10, 3) := by decide +kernel
theorem dX9_steps_110 : decode cX9_steps 110 = .ok (.iload 6, 2) := by decide +kernel
theorem dX9_steps_112 : decode cX9_steps 112 = .ok (.iload 5, 2) := by decide +kernel
theorem dX9_steps_114 : decode cX9_steps 114 = .ok (.iconst (-1), 1) := by decide +kernel
theorem dX9_steps_115 : decode cX9_steps 115 = .ok (.ixor, 1) := by decide +kernel
theorem dX9_steps_116 : decode cX9_steps 116 = .ok (.iand, 1) := by decide +kernel
theorem dX9_steps_117 : decode cX9_steps 117 = .ok (.istore 8, 2) := by decide +kernel
theorem dX9_steps_119 : decode cX9_steps 119 = .ok (.iconst 0, 1) := by decide +kernel
theorem dX9_steps_120 : decode cX9_steps 120 = .ok (.istore 9, 2) := by decide +kernel
theorem dX9_steps_122 : decode cX9_steps 122 = .ok (.iload 9, 2) := by decide +kernel
theorem dX9_steps_124 : decode cX9_steps 124 = .ok (.aload_n 0, 1) := by decide +kernel
theorem dX9_steps_125 : decode cX9_steps 125 = .ok (.getfield 113, 3) := by decide +kernel
theorem dX9_steps_128 : decode cX9_steps 128 = .ok (.if_icmp .ge 36, 3) := by decide +kernel
theorem dX9_steps_131 : decode cX9_steps 131 = .ok (.iload 6, 2) := by decide +kernel
theorem dX9_steps_133 : decode cX9_steps 133 = .ok (.aload_n 0, 1) := by decide +kernel
theorem dX9_steps_134 : decode cX9_steps 134 = .ok (.iload 9, 2) := by decide +kernel
theorem dX9_steps_136 : decode cX9_steps 136 = .ok (.invokevirtual 269, 3) := by decide +kernel
theorem dX9_steps_139 : decode cX9_steps 139 = .ok (.iload 8, 2) := by decide +kernel
theorem dX9_steps_141 : decode cX9_steps 141 = .ok (.iand, 1) := by decide +kernel
theorem dX9_steps_142 : decode cX9_steps 142 = .ok (.ifCond .eq 12, 3) := by decide +kernel
theorem dX9_steps_145 : decode cX9_steps 145 = .ok (.aload_n 0, 1) := by decide +kernel
theorem dX9_steps_146 : decode cX9_steps 146 = .ok (.iload 9, 2) := by decide +kernel
theorem dX9_steps_148 : decode cX9_steps 148 = .ok (.invokevirtual 269, 3) := by decide +kernel
theorem dX9_steps_151 : decode cX9_steps 151 = .ok (.goto 4, 3) := by decide +kernel
theorem dX9_steps_154 : decode cX9_steps 154 = .ok (.iconst 0, 1) := by decide +kernel
theorem dX9_steps_155 : decode cX9_steps 155 = .ok (.ior, 1) := by decide +kernel
theorem dX9_steps_156 : decode cX9_steps 156 = .ok (.istore 6, 2) := by decide +kernel
theorem dX9_steps_158 : decode cX9_steps 158 = .ok (.iinc 9 1, 3) := by decide +kernel
theorem dX9_steps_161 : decode cX9_steps 161 = .ok (.goto (-39), 3) := by decide +kernel
theorem dX9_steps_164 : decode cX9_steps 164 = .ok (.iload 6, 2) := by decide +kernel
theorem dX9_steps_166 : decode cX9_steps 166 = .ok (.iload 4, 2) := by decide +kernel
theorem dX9_steps_168 : decode cX9_steps 168 = .ok (.ishr, 1) := by decide +kernel
theorem dX9_steps_169 : decode cX9_steps 169 = .ok (.iconst 1, 1) := by decide +kernel
theorem dX9_steps_170 : decode cX9_steps 170 = .ok (.iand, 1) := by decide +kernel
theorem dX9_steps_171 : decode cX9_steps 171 = .ok (.iconst 1, 1) := by decide +kernel
theorem dX9_steps_172 : decode cX9_steps 172 = .ok (.if_icmp .ne 6, 3) := by decide +kernel
theorem dX9_steps_175 : decode cX9_steps 175 = .ok (.iload 7, 2) := by decide +kernel
theorem dX9_steps_177 : decode cX9_steps 177 = .ok (.ireturn, 1) := by decide +kernel
theorem dX9_steps_178 : decode cX9_steps 178 = .ok (.iinc 7 1, 3) := by decide +kernel
theorem dX9_steps_181 : decode cX9_steps 181 = .ok (.goto (-89), 3) := by decide +kernel
theorem dX9_steps_184 : decode cX9_steps 184 = .ok (.bipush (-3), 2) := by decide +kernel
theorem dX9_steps_186 : decode cX9_steps 186 = .ok (.ireturn, 1) := by decide +kernel
theorem dX9_turned_0 : decode cX9_turned 0 = .ok (.aload_n 0, 1) := by decide +kernel
theorem dX9_turned_1 : decode cX9_turned 1 = .ok (.iload_n 1, 1) := by decide +kernel
theorem dX9_turned_2 : decode cX9_turned 2 = .ok (.invokevirtual 245, 3) := by decide +kernel
theorem dX9_turned_5 : decode cX9_turned 5 = .ok (.ifCond .ne 5, 3) := by decide +kernel
theorem dX9_turned_8 : decode cX9_turned 8 = .ok (.iconst (-1), 1) := by decide +kernel
theorem dX9_turned_9 : decode cX9_turned 9 = .ok (.ireturn, 1) := by decide +kernel
theorem dX9_turned_10 : decode cX9_turned 10 = .ok (.iconst 0, 1) := by decide +kernel
theorem dX9_turned_11 : decode cX9_turned 11 = .ok (.istore_n 2, 1) := by decide +kernel
theorem dX9_turned_12 : decode cX9_turned 12 = .ok (.iconst 0, 1) := by decide +kernel
theorem dX9_turned_13 : decode cX9_turned 13 = .ok (.istore_n 3, 1) := by decide +kernel
theorem dX9_turned_14 : decode cX9_turned 14 = .ok (.iload_n 3, 1) := by decide +kernel
theorem dX9_turned_15 : decode cX9_turned 15 = .ok (.aload_n 0, 1) := by decide +kernel
theorem dX9_turned_16 : decode cX9_turned 16 = .ok (.getfield 113, 3) := by decide +kernel
theorem dX9_turned_19 : decode cX9_turned 19 = .ok (.if_icmp .ge 96, 3) := by decide +kernel
theorem dX9_turned_22 : decode cX9_turned 22 = .ok (.iload_n 3, 1) := by decide +kernel
theorem dX9_turned_23 : decode cX9_turned 23 = .ok (.iconst 1, 1) := by decide +kernel
theorem dX9_turned_24 : decode cX9_turned 24 = .ok (.iadd, 1) := by decide +kernel
theorem dX9_turned_25 : decode cX9_turned 25 = .ok (.istore 4, 2) := by decide +kernel
theorem dX9_turned_27 : decode cX9_turned 27 = .ok (.iload 4, 2) := by decide +kernel
theorem dX9_turned_29 : decode cX9_turned 29 = .ok (.aload_n 0, 1) := by decide +kernel
theorem dX9_turned_30 : decode cX9_turned 30 = .ok (.getfield 113, 3) := by decide +kernel
theorem dX9_turned_33 : decode cX9_turned 33 = .ok (.if_icmp .ge 76, 3) := by decide +kernel
theorem dX9_turned_36 : decode cX9_turned 36 = .ok (.aload_n 0, 1) := by decide +kernel
theorem dX9_turned_37 : decode cX9_turned 37 = .ok (.iload_n 3, 1) := by decide +kernel
theorem dX9_turned_38 : decode cX9_turned 38 = .ok (.aload_n 0, 1) := by decide +kernel
theorem dX9_turned_39 : decode cX9_turned 39 = .ok (.getfield 19, 3) := by decide +kernel
theorem dX9_turned_42 : decode cX9_turned 42 = .ok (.iload_n 1, 1) := by decide +kernel
theorem dX9_turned_43 : decode cX9_turned 43 = .ok (.iaload, 1) := by decide +kernel
theorem dX9_turned_44 : decode cX9_turned 44 = .ok (.invokevirtual 242, 3) := by decide +kernel
theorem dX9_turned_47 : decode cX9_turned 47 = .ok (.istore 5, 2) := by decide +kernel
theorem dX9_turned_49 : decode cX9_turned 49 = .ok (.aload_n 0, 1) := by decide +kernel
theorem dX9_turned_50 : decode cX9_turned 50 = .ok (.iload 4, 2) := by decide +kernel
theorem dX9_turned_52 : decode cX9_turned 52 = .ok (.aload_n 0, 1) := by decide +kernel
theorem dX9_turned_53 : decode cX9_turned 53 = .ok (.getfield 19, 3) := by decide +kernel
theorem dX9_turned_56 : decode cX9_turned 56 = .ok (.iload_n 1, 1) := by decide +kernel
theorem dX9_turned_57 : decode cX9_turned 57 = .ok (.iaload, 1) := by decide +kernel
theorem dX9_turned_58 : decode cX9_turned 58 = .ok (.invokevirtual 242, 3) := by decide +kernel
theorem dX9_turned_61 : decode cX9_turned 61 = .ok (.istore 6, 2) := by decide +kernel
theorem dX9_turned_63 : decode cX9_turned 63 = .ok (.iload_n 2, 1) := by decide +kernel
theorem dX9_turned_64 : decode cX9_turned 64 = .ok (.iload 5, 2) := by decide +kernel
theorem dX9_turned_66 : decode cX9_turned 66 = .ok (.iconst 1, 1) := by decide +kernel
theorem dX9_turned_67 : decode cX9_turned 67 = .ok (.iand, 1) := by decide +kernel
theorem dX9_turned_68 : decode cX9_turned 68 = .ok (.iconst 1, 1) := by decide +kernel
theorem dX9_turned_69 : decode cX9_turned 69 = .ok (.if_icmp .ne 11, 3) := by decide +kernel
theorem dX9_turned_72 : decode cX9_turned 72 = .ok (.iload 6, 2) := by decide +kernel
theorem dX9_turned_74 : decode cX9_turned 74 = .ok (.iconst 2, 1) := by decide +kernel
theorem dX9_turned_75 : decode cX9_turned 75 = .ok (.iand, 1) := by decide +kernel
theorem dX9_turned_76 : decode cX9_turned 76 = .ok (.iconst 2, 1) := by decide +kernel
theorem dX9_turned_77 : decode cX9_turned 77 = .ok (.if_icmp .eq 19, 3) := by decide +kernel
theorem dX9_turned_80 : decode cX9_turned 80 = .ok (.iload 5, 2) := by decide +kernel
theorem dX9_turned_82 : decode cX9_turned 82 = .ok (.iconst 2, 1) := by decide +kernel
theorem dX9_turned_83 : decode cX9_turned 83 = .ok (.iand, 1) := by decide +kernel
theorem dX9_turned_84 : decode cX9_turned 84 = .ok (.iconst 2, 1) := by decide +kernel
theorem dX9_turned_85 : decode cX9_turned 85 = .ok (.if_icmp .ne 15, 3) := by decide +kernel
theorem dX9_turned_88 : decode cX9_turned 88 = .ok (.iload 6, 2) := by decide +kernel
theorem dX9_turned_90 : decode cX9_turned 90 = .ok (.iconst 1, 1) := by decide +kernel
theorem dX9_turned_91 : decode cX9_turned 91 = .ok (.iand, 1) := by decide +kernel
theorem dX9_turned_92 : decode cX9_turned 92 = .ok (.iconst 1, 1) := by decide +kernel
theorem dX9_turned_93 : decode cX9_turned 93 = .ok (.if_icmp .ne 7, 3) := by decide +kernel
theorem dX9_turned_96 : decode cX9_turned 96 = .ok (.iconst 1, 1) := by decide +kernel
theorem dX9_turned_97 : decode cX9_turned 97 = .ok (.goto 4, 3) := by decide +kernel
theorem dX9_turned_100 : decode cX9_turned 100 = .ok (.iconst 0, 1) := by decide +kernel
theorem dX9_turned_101 : decode cX9_turned 101 = .ok (.iadd, 1) := by decide +kernel
theorem dX9_turned_102 : decode cX9_turned 102 = .ok (.istore_n 2, 1) := by decide +kernel
theorem dX9_turned_103 : decode cX9_turned 103 = .ok (.iinc 4 1, 3) := by decide +kernel
theorem dX9_turned_106 : decode cX9_turned 106 = .ok (.goto (-79), 3) := by decide +kernel
theorem dX9_turned_109 : decode cX9_turned 109 = .ok (.iinc 3 1, 3) := by decide +kernel
theorem dX9_turned_112 : decode cX9_turned 112 = .ok (.goto (-98), 3) := by decide +kernel
theorem dX9_turned_115 : decode cX9_turned 115 = .ok (.iload_n 2, 1) := by decide +kernel
theorem dX9_turned_116 : decode cX9_turned 116 = .ok (.ireturn, 1) := by decide +kernel
theorem dX9_findStrengths_0 : decode cX9_findStrengths 0 = .ok (.iconst 0, 1) := by decide +kernel
theorem dX9_findStrengths_1 : decode cX9_findStrengths 1 = .ok (.istore_n 1, 1) := by decide +kernel
theorem dX9_findStrengths_2 : decode cX9_findStrengths 2 = .ok (.iload_n 1, 1) := by decide +kernel
theorem dX9_findStrengths_3 : decode cX9_findStrengths 3 = .ok (.aload_n 0, 1) := by decide +kernel
theorem dX9_findStrengths_4 : decode cX9_findStrengths 4 = .ok (.getfield 113, 3) := by decide +kernel
theorem dX9_findStrengths_7 : decode cX9_findStrengths 7 = .ok (.if_icmp .ge 44, 3) := by decide +kernel
theorem dX9_findStrengths_10 : decode cX9_findStrengths 10 = .ok (.iload_n 1, 1) := by decide +kernel
theorem dX9_findStrengths_11 : decode cX9_findStrengths 11 = .ok (.iconst 1, 1) := by decide +kernel
theorem dX9_findStrengths_12 : decode cX9_findStrengths 12 = .ok (.iadd, 1) := by decide +kernel
theorem dX9_findStrengths_13 : decode cX9_findStrengths 13 = .ok (.istore_n 2, 1) := by decide +kernel
theorem dX9_findStrengths_14 : decode cX9_findStrengths 14 = .ok (.iload_n 2, 1) := by decide +kernel
theorem dX9_findStrengths_15 : decode cX9_findStrengths 15 = .ok (.aload_n 0, 1) := by decide +kernel
theorem dX9_findStrengths_16 : decode cX9_findStrengths 16 = .ok (.getfield 113, 3) := by decide +kernel
theorem dX9_findStrengths_19 : decode cX9_findStrengths 19 = .ok (.if_icmp .ge 26, 3) := by decide +kernel
theorem dX9_findStrengths_22 : decode cX9_findStrengths 22 = .ok (.aload_n 0, 1) := by decide +kernel
theorem dX9_findStrengths_23 : decode cX9_findStrengths 23 = .ok (.getfield 60, 3) := by decide +kernel
theorem dX9_findStrengths_26 : decode cX9_findStrengths 26 = .ok (.bipush 9, 2) := by decide +kernel
theorem dX9_findStrengths_28 : decode cX9_findStrengths 28 = .ok (.iload_n 1, 1) := by decide +kernel
theorem dX9_findStrengths_29 : decode cX9_findStrengths 29 = .ok (.imul, 1) := by decide +kernel
theorem dX9_findStrengths_30 : decode cX9_findStrengths 30 = .ok (.iload_n 2, 1) := by decide +kernel
theorem dX9_findStrengths_31 : decode cX9_findStrengths 31 = .ok (.iadd, 1) := by decide +kernel
theorem dX9_findStrengths_32 : decode cX9_findStrengths 32 = .ok (.aload_n 0, 1) := by decide +kernel
theorem dX9_findStrengths_33 : decode cX9_findStrengths 33 = .ok (.iload_n 1, 1) := by decide +kernel
theorem dX9_findStrengths_34 : decode cX9_findStrengths 34 = .ok (.iload_n 2, 1) := by decide +kernel
theorem dX9_findStrengths_35 : decode cX9_findStrengths 35 = .ok (.invokevirtual 263, 3) := by decide +kernel
theorem dX9_findStrengths_38 : decode cX9_findStrengths 38 = .ok (.iastore, 1) := by decide +kernel
theorem dX9_findStrengths_39 : decode cX9_findStrengths 39 = .ok (.iinc 2 1, 3) := by decide +kernel
theorem dX9_findStrengths_42 : decode cX9_findStrengths 42 = .ok (.goto (-28), 3) := by decide +kernel
theorem dX9_findStrengths_45 : decode cX9_findStrengths 45 = .ok (.iinc 1 1, 3) := by decide +kernel
theorem dX9_findStrengths_48 : decode cX9_findStrengths 48 = .ok (.goto (-46), 3) := by decide +kernel
theorem dX9_findStrengths_51 : decode cX9_findStrengths 51 = .ok (.return_, 1) := by decide +kernel
theorem dX9_scoreOf_0 : decode cX9_scoreOf 0 = .ok (.iconst 0, 1) := by decide +kernel
theorem dX9_scoreOf_1 : decode cX9_scoreOf 1 = .ok (.aload_n 0, 1) := by decide +kernel
theorem dX9_scoreOf_2 : decode cX9_scoreOf 2 = .ok (.getfield 25, 3) := by decide +kernel
theorem dX9_scoreOf_5 : decode cX9_scoreOf 5 = .ok (.iconst 4, 1) := by decide +kernel
theorem dX9_scoreOf_6 : decode cX9_scoreOf 6 = .ok (.iaload, 1) := by decide +kernel
theorem dX9_scoreOf_7 : decode cX9_scoreOf 7 = .ok (.iload_n 1, 1) := by decide +kernel
theorem dX9_scoreOf_8 : decode cX9_scoreOf 8 = .ok (.invokestatic 272, 3) := by decide +kernel
theorem dX9_scoreOf_11 : decode cX9_scoreOf 11 = .ok (.imul, 1) := by decide +kernel
theorem dX9_scoreOf_12 : decode cX9_scoreOf 12 = .ok (.isub, 1) := by decide +kernel
theorem dX9_scoreOf_13 : decode cX9_scoreOf 13 = .ok (.istore_n 2, 1) := by decide +kernel
theorem dX9_scoreOf_14 : decode cX9_scoreOf 14 = .ok (.iconst 0, 1) := by decide +kernel
theorem dX9_scoreOf_15 : decode cX9_scoreOf 15 = .ok (.istore_n 3, 1) := by decide +kernel
theorem dX9_scoreOf_16 : decode cX9_scoreOf 16 = .ok (.iload_n 3, 1) := by decide +kernel
theorem dX9_scoreOf_17 : decode cX9_scoreOf 17 = .ok (.aload_n 0, 1) := by decide +kernel
theorem dX9_scoreOf_18 : decode cX9_scoreOf 18 = .ok (.getfield 113, 3) := by decide +kernel
theorem dX9_scoreOf_21 : decode cX9_scoreOf 21 = .ok (.if_icmp .ge 67, 3) := by decide +kernel
theorem dX9_scoreOf_24 : decode cX9_scoreOf 24 = .ok (.iload_n 3, 1) := by decide +kernel
theorem dX9_scoreOf_25 : decode cX9_scoreOf 25 = .ok (.iconst 1, 1) := by decide +kernel
theorem dX9_scoreOf_26 : decode cX9_scoreOf 26 = .ok (.iadd, 1) := by decide +kernel
theorem dX9_scoreOf_27 : decode cX9_scoreOf 27 = .ok (.istore 4, 2) := by decide +kernel
theorem dX9_scoreOf_29 : decode cX9_scoreOf 29 = .ok (.iload 4, 2) := by decide +kernel
theorem dX9_scoreOf_31 : decode cX9_scoreOf 31 = .ok (.aload_n 0, 1) := by decide +kernel
theorem dX9_scoreOf_32 : decode cX9_scoreOf 32 = .ok (.getfield 113, 3) := by decide +kernel
theorem dX9_scoreOf_35 : decode cX9_scoreOf 35 = .ok (.if_icmp .ge 47, 3) := by decide +kernel
theorem dX9_scoreOf_38 : decode cX9_scoreOf 38 = .ok (.iload_n 2, 1) := by decide +kernel
theorem dX9_scoreOf_39 : decode cX9_scoreOf 39 = .ok (.iload_n 1, 1) := by decide +kernel
theorem dX9_scoreOf_40 : decode cX9_scoreOf 40 = .ok (.iload_n 3, 1) := by decide +kernel
theorem dX9_scoreOf_41 : decode cX9_scoreOf 41 = .ok (.ishr, 1) := by decide +kernel
theorem dX9_scoreOf_42 : decode cX9_scoreOf 42 = .ok (.iconst 1, 1) := by decide +kernel
theorem dX9_scoreOf_43 : decode cX9_scoreOf 43 = .ok (.iand, 1) := by decide +kernel
theorem dX9_scoreOf_44 : decode cX9_scoreOf 44 = .ok (.iconst 1, 1) := by decide +kernel
theorem dX9_scoreOf_45 : decode cX9_scoreOf 45 = .ok (.if_icmp .ne 28, 3) := by decide +kernel
theorem dX9_scoreOf_48 : decode cX9_scoreOf 48 = .ok (.iload_n 1, 1) := by decide +kernel
theorem dX9_scoreOf_49 : decode cX9_scoreOf 49 = .ok (.iload 4, 2) := by decide +kernel
theorem dX9_scoreOf_51 : decode cX9_scoreOf 51 = .ok (.ishr, 1) := by decide +kernel
theorem dX9_scoreOf_52 : decode cX9_scoreOf 52 = .ok (.iconst 1, 1) := by decide +kernel
theorem dX9_scoreOf_53 : decode cX9_scoreOf 53 = .ok (.iand, 1) := by decide +kernel
theorem dX9_scoreOf_54 : decode cX9_scoreOf 54 = .ok (.iconst 1, 1) := by decide +kernel
theorem dX9_scoreOf_55 : decode cX9_scoreOf 55 = .ok (.if_icmp .ne 18, 3) := by decide +kernel
theorem dX9_scoreOf_58 : decode cX9_scoreOf 58 = .ok (.aload_n 0, 1) := by decide +kernel
theorem dX9_scoreOf_59 : decode cX9_scoreOf 59 = .ok (.getfield 60, 3) := by decide +kernel
theorem dX9_scoreOf_62 : decode cX9_scoreOf 62 = .ok (.bipush 9, 2) := by decide +kernel
theorem dX9_scoreOf_64 : decode cX9_scoreOf 64 = .ok (.iload_n 3, 1) := by decide +kernel
theorem dX9_scoreOf_65 : decode cX9_scoreOf 65 = .ok (.imul, 1) := by decide +kernel
theorem dX9_scoreOf_66 : decode cX9_scoreOf 66 = .ok (.iload 4, 2) := by decide +kernel
theorem dX9_scoreOf_68 : decode cX9_scoreOf 68 = .ok (.iadd, 1) := by decide +kernel
theorem dX9_scoreOf_69 : decode cX9_scoreOf 69 = .ok (.iaload, 1) := by decide +kernel
theorem dX9_scoreOf_70 : decode cX9_scoreOf 70 = .ok (.goto 4, 3) := by decide +kernel
theorem dX9_scoreOf_73 : decode cX9_scoreOf 73 = .ok (.iconst 0, 1) := by decide +kernel
theorem dX9_scoreOf_74 : decode cX9_scoreOf 74 = .ok (.iadd, 1) := by decide +kernel
theorem dX9_scoreOf_75 : decode cX9_scoreOf 75 = .ok (.istore_n 2, 1) := by decide +kernel
theorem dX9_scoreOf_76 : decode cX9_scoreOf 76 = .ok (.iinc 4 1, 3) := by decide +kernel
theorem dX9_scoreOf_79 : decode cX9_scoreOf 79 = .ok (.goto (-50), 3) := by decide +kernel
theorem dX9_scoreOf_82 : decode cX9_scoreOf 82 = .ok (.iinc 3 1, 3) := by decide +kernel
theorem dX9_scoreOf_85 : decode cX9_scoreOf 85 = .ok (.goto (-69), 3) := by decide +kernel
theorem dX9_scoreOf_88 : decode cX9_scoreOf 88 = .ok (.iload_n 2, 1) := by decide +kernel
theorem dX9_scoreOf_89 : decode cX9_scoreOf 89 = .ok (.ireturn, 1) := by decide +kernel
theorem dX9_isSet_0 : decode cX9_isSet 0 = .ok (.iload_n 1, 1) := by decide +kernel
theorem dX9_isSet_1 : decode cX9_isSet 1 = .ok (.iconst 0, 1) := by decide +kernel
theorem dX9_isSet_2 : decode cX9_isSet 2 = .ok (.iconst 1, 1) := by decide +kernel
theorem dX9_isSet_3 : decode cX9_isSet 3 = .ok (.aload_n 0, 1) := by decide +kernel
theorem dX9_isSet_4 : decode cX9_isSet 4 = .ok (.getfield 113, 3) := by decide +kernel
theorem dX9_isSet_7 : decode cX9_isSet 7 = .ok (.ishl, 1) := by decide +kernel
theorem dX9_isSet_8 : decode cX9_isSet 8 = .ok (.iconst 1, 1) := by decide +kernel
theorem dX9_isSet_9 : decode cX9_isSet 9 = .ok (.isub, 1) := by decide +kernel
theorem dX9_isSet_10 : decode cX9_isSet 10 = .ok (.invokestatic 109, 3) := by decide +kernel
theorem dX9_isSet_13 : decode cX9_isSet 13 = .ok (.ireturn, 1) := by decide +kernel
theorem dX9_score_0 : decode cX9_score 0 = .ok (.aload_n 0, 1) := by decide +kernel
theorem dX9_score_1 : decode cX9_score 1 = .ok (.iload_n 1, 1) := by decide +kernel
theorem dX9_score_2 : decode cX9_score 2 = .ok (.invokevirtual 275, 3) := by decide +kernel
theorem dX9_score_5 : decode cX9_score 5 = .ok (.ifCond .ne 5, 3) := by decide +kernel
theorem dX9_score_8 : decode cX9_score 8 = .ok (.iconst (-1), 1) := by decide +kernel
theorem dX9_score_9 : decode cX9_score 9 = .ok (.ireturn, 1) := by decide +kernel
theorem dX9_score_10 : decode cX9_score 10 = .ok (.aload_n 0, 1) := by decide +kernel
theorem dX9_score_11 : decode cX9_score 11 = .ok (.invokevirtual 278, 3) := by decide +kernel
theorem dX9_score_14 : decode cX9_score 14 = .ok (.ldc_w 281, 3) := by decide +kernel
theorem dX9_score_17 : decode cX9_score 17 = .ok (.aload_n 0, 1) := by decide +kernel
theorem dX9_score_18 : decode cX9_score 18 = .ok (.iload_n 1, 1) := by decide +kernel
theorem dX9_score_19 : decode cX9_score 19 = .ok (.invokevirtual 282, 3) := by decide +kernel
theorem dX9_score_22 : decode cX9_score 22 = .ok (.iadd, 1) := by decide +kernel
theorem dX9_score_23 : decode cX9_score 23 = .ok (.ireturn, 1) := by decide +kernel
theorem dX9_findLot_0 : decode cX9_findLot 0 = .ok (.aload_n 0, 1) := by decide +kernel
theorem dX9_findLot_1 : decode cX9_findLot 1 = .ok (.invokevirtual 278, 3) := by decide +kernel
theorem dX9_findLot_4 : decode cX9_findLot 4 = .ok (.bipush (-3), 2) := by decide +kernel
theorem dX9_findLot_6 : decode cX9_findLot 6 = .ok (.istore_n 1, 1) := by decide +kernel
theorem dX9_findLot_7 : decode cX9_findLot 7 = .ok (.aload_n 0, 1) := by decide +kernel
theorem dX9_findLot_8 : decode cX9_findLot 8 = .ok (.iconst 0, 1) := by decide +kernel
theorem dX9_findLot_9 : decode cX9_findLot 9 = .ok (.putfield 285, 3) := by decide +kernel
theorem dX9_findLot_12 : decode cX9_findLot 12 = .ok (.iconst 0, 1) := by decide +kernel
theorem dX9_findLot_13 : decode cX9_findLot 13 = .ok (.istore_n 2, 1) := by decide +kernel
theorem dX9_findLot_14 : decode cX9_findLot 14 = .ok (.iload_n 2, 1) := by decide +kernel
theorem dX9_findLot_15 : decode cX9_findLot 15 = .ok (.iconst 1, 1) := by decide +kernel
theorem dX9_findLot_16 : decode cX9_findLot 16 = .ok (.aload_n 0, 1) := by decide +kernel
theorem dX9_findLot_17 : decode cX9_findLot 17 = .ok (.getfield 113, 3) := by decide +kernel
theorem dX9_findLot_20 : decode cX9_findLot 20 = .ok (.ishl, 1) := by decide +kernel
theorem dX9_findLot_21 : decode cX9_findLot 21 = .ok (.if_icmp .ge 92, 3) := by decide +kernel
theorem dX9_findLot_24 : decode cX9_findLot 24 = .ok (.iload_n 2, 1) := by decide +kernel
theorem dX9_findLot_25 : decode cX9_findLot 25 = .ok (.invokestatic 272, 3) := by decide +kernel
theorem dX9_findLot_28 : decode cX9_findLot 28 = .ok (.iconst 2, 1) := by decide +kernel
theorem dX9_findLot_29 : decode cX9_findLot 29 = .ok (.if_icmp .ge 6, 3) := by decide +kernel
theorem dX9_findLot_32 : decode cX9_findLot 32 = .ok (.goto 75, 3) := by decide +kernel
theorem dX9_findLot_35 : decode cX9_findLot 35 = .ok (.aload_n 0, 1) := by decide +kernel
theorem dX9_findLot_36 : decode cX9_findLot 36 = .ok (.iload_n 2, 1) := by decide +kernel
theorem dX9_findLot_37 : decode cX9_findLot 37 = .ok (.invokevirtual 282, 3) := by decide +kernel
theorem dX9_findLot_40 : decode cX9_findLot 40 = .ok (.istore_n 3, 1) := by decide +kernel
theorem dX9_findLot_41 : decode cX9_findLot 41 = .ok (.iload_n 1, 1) := by decide +kernel
theorem dX9_findLot_42 : decode cX9_findLot 42 = .ok (.ifCond .lt 30, 3) := by decide +kernel
theorem dX9_findLot_45 : decode cX9_findLot 45 = .ok (.iload_n 3, 1) := by decide +kernel
theorem dX9_findLot_46 : decode cX9_findLot 46 = .ok (.aload_n 0, 1) := by decide +kernel
theorem dX9_findLot_47 : decode cX9_findLot 47 = .ok (.getfield 285, 3) := by decide +kernel
theorem dX9_findLot_50 : decode cX9_findLot 50 = .ok (.if_icmp .gt 22, 3) := by decide +kernel
theorem dX9_findLot_53 : decode cX9_findLot 53 = .ok (.iload_n 3, 1) := by decide +kernel
theorem dX9_findLot_54 : decode cX9_findLot 54 = .ok (.aload_n 0, 1) := by decide +kernel
theorem dX9_findLot_55 : decode cX9_findLot 55 = .ok (.getfield 285, 3) := by decide +kernel
theorem dX9_findLot_58 : decode cX9_findLot 58 = .ok (.if_icmp .ne 18, 3) := by decide +kernel
theorem dX9_findLot_61 : decode cX9_findLot 61 = .ok (.iload_n 2, 1) := by decide +kernel
theorem dX9_findLot_62 : decode cX9_findLot 62 = .ok (.invokestatic 272, 3) := by decide +kernel
theorem dX9_findLot_65 : decode cX9_findLot 65 = .ok (.iload_n 1, 1) := by decide +kernel
theorem dX9_findLot_66 : decode cX9_findLot 66 = .ok (.invokestatic 272, 3) := by decide +kernel
theorem dX9_findLot_69 : decode cX9_findLot 69 = .ok (.if_icmp .ge 7, 3) := by decide +kernel
theorem dX9_findLot_72 : decode cX9_findLot 72 = .ok (.iconst 1, 1) := by decide +kernel
theorem dX9_findLot_73 : decode cX9_findLot 73 = .ok (.goto 4, 3) := by decide +kernel
theorem dX9_findLot_76 : decode cX9_findLot 76 = .ok (.iconst 0, 1) := by decide +kernel
theorem dX9_findLot_77 : decode cX9_findLot 77 = .ok (.istore 4, 2) := by decide +kernel
theorem dX9_findLot_79 : decode cX9_findLot 79 = .ok (.iload 4, 2) := by decide +kernel
theorem dX9_findLot_81 : decode cX9_findLot 81 = .ok (.ifCond .eq 7, 3) := by decide +kernel
theorem dX9_findLot_84 : decode cX9_findLot 84 = .ok (.iload_n 2, 1) := by decide +kernel
theorem dX9_findLot_85 : decode cX9_findLot 85 = .ok (.goto 4, 3) := by decide +kernel
theorem dX9_findLot_88 : decode cX9_findLot 88 = .ok (.iload_n 1, 1) := by decide +kernel
theorem dX9_findLot_89 : decode cX9_findLot 89 = .ok (.istore_n 1, 1) := by decide +kernel
theorem dX9_findLot_90 : decode cX9_findLot 90 = .ok (.aload_n 0, 1) := by decide +kernel
theorem dX9_findLot_91 : decode cX9_findLot 91 = .ok (.iload 4, 2) := by decide +kernel
theorem dX9_findLot_93 : decode cX9_findLot 93 = .ok (.ifCond .eq 7, 3) := by decide +kernel
theorem dX9_findLot_96 : decode cX9_findLot 96 = .ok (.iload_n 3, 1) := by decide +kernel
theorem dX9_findLot_97 : decode cX9_findLot 97 = .ok (.goto 7, 3) := by decide +kernel
theorem dX9_findLot_100 : decode cX9_findLot 100 = .ok (.aload_n 0, 1) := by decide +kernel
theorem dX9_findLot_101 : decode cX9_findLot 101 = .ok (.getfield 285, 3) := by decide +kernel
theorem dX9_findLot_104 : decode cX9_findLot 104 = .ok (.putfield 285, 3) := by decide +kernel
theorem dX9_findLot_107 : decode cX9_findLot 107 = .ok (.iinc 2 1, 3) := by decide +kernel
theorem dX9_findLot_110 : decode cX9_findLot 110 = .ok (.goto (-96), 3) := by decide +kernel
theorem dX9_findLot_113 : decode cX9_findLot 113 = .ok (.iload_n 1, 1) := by decide +kernel
theorem dX9_findLot_114 : decode cX9_findLot 114 = .ok (.ireturn, 1) := by decide +kernel
theorem dX9_lot_0 : decode cX9_lot 0 = .ok (.iload_n 1, 1) := by decide +kernel
theorem dX9_lot_1 : decode cX9_lot 1 = .ok (.invokestatic 288, 3) := by decide +kernel
theorem dX9_lot_4 : decode cX9_lot 4 = .ok (.ifCond .ne 5, 3) := by decide +kernel
theorem dX9_lot_7 : decode cX9_lot 7 = .ok (.iconst (-1), 1) := by decide +kernel
theorem dX9_lot_8 : decode cX9_lot 8 = .ok (.ireturn, 1) := by decide +kernel
theorem dX9_lot_9 : decode cX9_lot 9 = .ok (.aload_n 0, 1) := by decide +kernel
theorem dX9_lot_10 : decode cX9_lot 10 = .ok (.invokevirtual 291, 3) := by decide +kernel
theorem dX9_lot_13 : decode cX9_lot 13 = .ok (.istore_n 2, 1) := by decide +kernel
theorem dX9_lot_14 : decode cX9_lot 14 = .ok (.iload_n 2, 1) := by decide +kernel
theorem dX9_lot_15 : decode cX9_lot 15 = .ok (.ifCond .lt 7, 3) := by decide +kernel
theorem dX9_lot_18 : decode cX9_lot 18 = .ok (.iload_n 1, 1) := by decide +kernel
theorem dX9_lot_19 : decode cX9_lot 19 = .ok (.ifCond .ne 7, 3) := by decide +kernel
theorem dX9_lot_22 : decode cX9_lot 22 = .ok (.iload_n 2, 1) := by decide +kernel
theorem dX9_lot_23 : decode cX9_lot 23 = .ok (.goto 11, 3) := by decide +kernel
theorem dX9_lot_26 : decode cX9_lot 26 = .ok (.ldc_w 281, 3) := by decide +kernel
theorem dX9_lot_29 : decode cX9_lot 29 = .ok (.aload_n 0, 1) := by decide +kernel
theorem dX9_lot_30 : decode cX9_lot 30 = .ok (.getfield 285, 3) := by decide +kernel
theorem dX9_lot_33 : decode cX9_lot 33 = .ok (.iadd, 1) := by decide +kernel
theorem dX9_lot_34 : decode cX9_lot 34 = .ok (.ireturn, 1) := by decide +kernel
theorem dX9_seen_0 : decode cX9_seen 0 = .ok (.iload_n 1, 1) := by decide +kernel
theorem dX9_seen_1 : decode cX9_seen 1 = .ok (.sipush (-1000), 3) := by decide +kernel
theorem dX9_seen_4 : decode cX9_seen 4 = .ok (.sipush 1000, 3) := by decide +kernel
theorem dX9_seen_7 : decode cX9_seen 7 = .ok (.invokestatic 109, 3) := by decide +kernel
theorem dX9_seen_10 : decode cX9_seen 10 = .ok (.ifCond .ne 5, 3) := by decide +kernel
theorem dX9_seen_13 : decode cX9_seen 13 = .ok (.iconst (-1), 1) := by decide +kernel
theorem dX9_seen_14 : decode cX9_seen 14 = .ok (.ireturn, 1) := by decide +kernel
theorem dX9_seen_15 : decode cX9_seen 15 = .ok (.aload_n 0, 1) := by decide +kernel
theorem dX9_seen_16 : decode cX9_seen 16 = .ok (.invokevirtual 278, 3) := by decide +kernel
theorem dX9_seen_19 : decode cX9_seen 19 = .ok (.bipush (-3), 2) := by decide +kernel
theorem dX9_seen_21 : decode cX9_seen 21 = .ok (.istore_n 2, 1) := by decide +kernel
theorem dX9_seen_22 : decode cX9_seen 22 = .ok (.iconst 0, 1) := by decide +kernel
theorem dX9_seen_23 : decode cX9_seen 23 = .ok (.istore_n 3, 1) := by decide +kernel
theorem dX9_seen_24 : decode cX9_seen 24 = .ok (.iload_n 3, 1) := by decide +kernel
theorem dX9_seen_25 : decode cX9_seen 25 = .ok (.iconst 1, 1) := by decide +kernel
theorem dX9_seen_26 : decode cX9_seen 26 = .ok (.aload_n 0, 1) := by decide +kernel
theorem dX9_seen_27 : decode cX9_seen 27 = .ok (.getfield 113, 3) := by decide +kernel
theorem dX9_seen_30 : decode cX9_seen 30 = .ok (.ishl, 1) := by decide +kernel
theorem dX9_seen_31 : decode cX9_seen 31 = .ok (.if_icmp .ge 112, 3) := by decide +kernel
theorem dX9_seen_34 : decode cX9_seen 34 = .ok (.iconst 0, 1) := by decide +kernel
theorem dX9_seen_35 : decode cX9_seen 35 = .ok (.istore 4, 2) := by decide +kernel
theorem dX9_seen_37 : decode cX9_seen 37 = .ok (.iconst 0, 1) := by decide +kernel
theorem dX9_seen_38 : decode cX9_seen 38 = .ok (.istore 5, 2) := by decide +kernel
theorem dX9_seen_40 : decode cX9_seen 40 = .ok (.iload 5, 2) := by decide +kernel
theorem dX9_seen_42 : decode cX9_seen 42 = .ok (.aload_n 0, 1) := by decide +kernel
theorem dX9_seen_43 : decode cX9_seen 43 = .ok (.getfield 113, 3) := by decide +kernel
theorem dX9_seen_46 : decode cX9_seen 46 = .ok (.if_icmp .ge 45, 3) := by decide +kernel
theorem dX9_seen_49 : decode cX9_seen 49 = .ok (.iload_n 3, 1) := by decide +kernel
theorem dX9_seen_50 : decode cX9_seen 50 = .ok (.iload 5, 2) := by decide +kernel
theorem dX9_seen_52 : decode cX9_seen 52 = .ok (.ishr, 1) := by decide +kernel
theorem dX9_seen_53 : decode cX9_seen 53 = .ok (.iconst 1, 1) := by decide +kernel
theorem dX9_seen_54 : decode cX9_seen 54 = .ok (.iand, 1) := by decide +kernel
theorem dX9_seen_55 : decode cX9_seen 55 = .ok (.iconst 1, 1) := by decide +kernel
theorem dX9_seen_56 : decode cX9_seen 56 = .ok (.if_icmp .ne 25, 3) := by decide +kernel
theorem dX9_seen_59 : decode cX9_seen 59 = .ok (.aload_n 0, 1) := by decide +kernel
theorem dX9_seen_60 : decode cX9_seen 60 = .ok (.iload 5, 2) := by decide +kernel
theorem dX9_seen_62 : decode cX9_seen 62 = .ok (.iconst 1, 1) := by decide +kernel
theorem dX9_seen_63 : decode cX9_seen 63 = .ok (.invokevirtual 235, 3) := by decide +kernel
theorem dX9_seen_66 : decode cX9_seen 66 = .ok (.iload 4, 2) := by decide +kernel
theorem dX9_seen_68 : decode cX9_seen 68 = .ok (.if_icmp .le 13, 3) := by decide +kernel
theorem dX9_seen_71 : decode cX9_seen 71 = .ok (.aload_n 0, 1) := by decide +kernel
theorem dX9_seen_72 : decode cX9_seen 72 = .ok (.iload 5, 2) := by decide +kernel
theorem dX9_seen_74 : decode cX9_seen 74 = .ok (.iconst 1, 1) := by decide +kernel
theorem dX9_seen_75 : decode cX9_seen 75 = .ok (.invokevirtual 235, 3) := by decide +kernel
theorem dX9_seen_78 : decode cX9_seen 78 = .ok (.goto 5, 3) := by decide +kernel
theorem dX9_seen_81 : decode cX9_seen 81 = .ok (.iload 4, 2) := by decide +kernel
theorem dX9_seen_83 : decode cX9_seen 83 = .ok (.istore 4, 2) := by decide +kernel
theorem dX9_seen_85 : decode cX9_seen 85 = .ok (.iinc 5 1, 3) := by decide +kernel
theorem dX9_seen_88 : decode cX9_seen 88 = .ok (.goto (-48), 3) := by decide +kernel
theorem dX9_seen_91 : decode cX9_seen 91 = .ok (.iload_n 3, 1) := by decide +kernel
theorem dX9_seen_92 : decode cX9_seen 92 = .ok (.invokestatic 272, 3) := by decide +kernel
theorem dX9_seen_95 : decode cX9_seen 95 = .ok (.iconst 1, 1) := by decide +kernel
theorem dX9_seen_96 : decode cX9_seen 96 = .ok (.if_icmp .le 26, 3) := by decide +kernel
theorem dX9_seen_99 : decode cX9_seen 99 = .ok (.iload_n 2, 1) := by decide +kernel
theorem dX9_seen_100 : decode cX9_seen 100 = .ok (.ifCond .lt 9, 3) := by decide +kernel
theorem dX9_seen_103 : decode cX9_seen 103 = .ok (.iload 4, 2) := by decide +kernel
theorem dX9_seen_105 : decode cX9_seen 105 = .ok (.iload_n 2, 1) := by decide +kernel
theorem dX9_seen_106 : decode cX9_seen 106 = .ok (.if_icmp .ge 16, 3) := by decide +kernel
theorem dX9_seen_109 : decode cX9_seen 109 = .ok (.aload_n 0, 1) := by decide +kernel
theorem dX9_seen_110 : decode cX9_seen 110 = .ok (.iload_n 3, 1) := by decide +kernel
theorem dX9_seen_111 : decode cX9_seen 111 = .ok (.invokevirtual 282, 3) := by decide +kernel
theorem dX9_seen_114 : decode cX9_seen 114 = .ok (.iload_n 1, 1) := by decide +kernel
theorem dX9_seen_115 : decode cX9_seen 115 = .ok (.if_icmp .lt 7, 3) := by decide +kernel
theorem dX9_seen_118 : decode cX9_seen 118 = .ok (.iconst 1, 1) := by decide +kernel
theorem dX9_seen_119 : decode cX9_seen 119 = .ok (.goto 4, 3) := by decide +kernel
theorem dX9_seen_122 : decode cX9_seen 122 = .ok (.iconst 0, 1) := by decide +kernel
theorem dX9_seen_123 : decode cX9_seen 123 = .ok (.istore 5, 2) := by decide +kernel
theorem dX9_seen_125 : decode cX9_seen 125 = .ok (.iload 5, 2) := by decide +kernel
theorem dX9_seen_127 : decode cX9_seen 127 = .ok (.ifCond .eq 8, 3) := by decide +kernel
theorem dX9_seen_130 : decode cX9_seen 130 = .ok (.iload 4, 2) := by decide +kernel
theorem dX9_seen_132 : decode cX9_seen 132 = .ok (.goto 4, 3) := by decide +kernel
theorem dX9_seen_135 : decode cX9_seen 135 = .ok (.iload_n 2, 1) := by decide +kernel
theorem dX9_seen_136 : decode cX9_seen 136 = .ok (.istore_n 2, 1) := by decide +kernel
theorem dX9_seen_137 : decode cX9_seen 137 = .ok (.iinc 3 1, 3) := by decide +kernel
theorem dX9_seen_140 : decode cX9_seen 140 = .ok (.goto (-116), 3) := by decide +kernel
theorem dX9_seen_143 : decode cX9_seen 143 = .ok (.iload_n 2, 1) := by decide +kernel
theorem dX9_seen_144 : decode cX9_seen 144 = .ok (.ireturn, 1) := by decide +kernel
theorem dX9_lotWithout_0 : decode cX9_lotWithout 0 = .ok (.aload_n 0, 1) := by decide +kernel
theorem dX9_lotWithout_1 : decode cX9_lotWithout 1 = .ok (.getfield 25, 3) := by decide +kernel
theorem dX9_lotWithout_4 : decode cX9_lotWithout 4 = .ok (.iload_n 1, 1) := by decide +kernel
theorem dX9_lotWithout_5 : decode cX9_lotWithout 5 = .ok (.iaload, 1) := by decide +kernel
theorem dX9_lotWithout_6 : decode cX9_lotWithout 6 = .ok (.istore_n 2, 1) := by decide +kernel
theorem dX9_lotWithout_7 : decode cX9_lotWithout 7 = .ok (.aload_n 0, 1) := by decide +kernel
theorem dX9_lotWithout_8 : decode cX9_lotWithout 8 = .ok (.getfield 25, 3) := by decide +kernel
theorem dX9_lotWithout_11 : decode cX9_lotWithout 11 = .ok (.iload_n 1, 1) := by decide +kernel
theorem dX9_lotWithout_12 : decode cX9_lotWithout 12 = .ok (.iconst 0, 1) := by decide +kernel
theorem dX9_lotWithout_13 : decode cX9_lotWithout 13 = .ok (.iastore, 1) := by decide +kernel
theorem dX9_lotWithout_14 : decode cX9_lotWithout 14 = .ok (.aload_n 0, 1) := by decide +kernel
theorem dX9_lotWithout_15 : decode cX9_lotWithout 15 = .ok (.invokevirtual 291, 3) := by decide +kernel
theorem dX9_lotWithout_18 : decode cX9_lotWithout 18 = .ok (.istore_n 3, 1) := by decide +kernel
theorem dX9_lotWithout_19 : decode cX9_lotWithout 19 = .ok (.aload_n 0, 1) := by decide +kernel
theorem dX9_lotWithout_20 : decode cX9_lotWithout 20 = .ok (.getfield 25, 3) := by decide +kernel
theorem dX9_lotWithout_23 : decode cX9_lotWithout 23 = .ok (.iload_n 1, 1) := by decide +kernel
theorem dX9_lotWithout_24 : decode cX9_lotWithout 24 = .ok (.iload_n 2, 1) := by decide +kernel
theorem dX9_lotWithout_25 : decode cX9_lotWithout 25 = .ok (.iastore, 1) := by decide +kernel
theorem dX9_lotWithout_26 : decode cX9_lotWithout 26 = .ok (.iload_n 3, 1) := by decide +kernel
theorem dX9_lotWithout_27 : decode cX9_lotWithout 27 = .ok (.ireturn, 1) := by decide +kernel
theorem dX9_without_0 : decode cX9_without 0 = .ok (.iload_n 1, 1) := by decide +kernel
theorem dX9_without_1 : decode cX9_without 1 = .ok (.iconst 0, 1) := by decide +kernel
theorem dX9_without_2 : decode cX9_without 2 = .ok (.iconst 3, 1) := by decide +kernel
theorem dX9_without_3 : decode cX9_without 3 = .ok (.invokestatic 109, 3) := by decide +kernel
theorem dX9_without_6 : decode cX9_without 6 = .ok (.ifCond .eq 11, 3) := by decide +kernel
theorem dX9_without_9 : decode cX9_without 9 = .ok (.aload_n 0, 1) := by decide +kernel
theorem dX9_without_10 : decode cX9_without 10 = .ok (.iload_n 1, 1) := by decide +kernel
theorem dX9_without_11 : decode cX9_without 11 = .ok (.invokevirtual 294, 3) := by decide +kernel
theorem dX9_without_14 : decode cX9_without 14 = .ok (.goto 4, 3) := by decide +kernel
theorem dX9_without_17 : decode cX9_without 17 = .ok (.iconst (-1), 1) := by decide +kernel
theorem dX9_without_18 : decode cX9_without 18 = .ok (.ireturn, 1) := by decide +kernel
theorem dX9_hold_0 : decode cX9_hold 0 = .ok (.aload_n 0, 1) := by decide +kernel
theorem dX9_hold_1 : decode cX9_hold 1 = .ok (.invokevirtual 291, 3) := by decide +kernel
theorem dX9_hold_4 : decode cX9_hold 4 = .ok (.istore_n 1, 1) := by decide +kernel
theorem dX9_hold_5 : decode cX9_hold 5 = .ok (.iload_n 1, 1) := by decide +kernel
theorem dX9_hold_6 : decode cX9_hold 6 = .ok (.ifCond .ge 6, 3) := by decide +kernel
theorem dX9_hold_9 : decode cX9_hold 9 = .ok (.bipush (-3), 2) := by decide +kernel
theorem dX9_hold_11 : decode cX9_hold 11 = .ok (.ireturn, 1) := by decide +kernel
theorem dX9_hold_12 : decode cX9_hold 12 = .ok (.iconst 0, 1) := by decide +kernel
theorem dX9_hold_13 : decode cX9_hold 13 = .ok (.istore_n 2, 1) := by decide +kernel
theorem dX9_hold_14 : decode cX9_hold 14 = .ok (.iconst 0, 1) := by decide +kernel
theorem dX9_hold_15 : decode cX9_hold 15 = .ok (.istore_n 3, 1) := by decide +kernel
theorem dX9_hold_16 : decode cX9_hold 16 = .ok (.iload_n 3, 1) := by decide +kernel
theorem dX9_hold_17 : decode cX9_hold 17 = .ok (.iconst 3, 1) := by decide +kernel
theorem dX9_hold_18 : decode cX9_hold 18 = .ok (.if_icmp .gt 28, 3) := by decide +kernel
theorem dX9_hold_21 : decode cX9_hold 21 = .ok (.iload_n 2, 1) := by decide +kernel
theorem dX9_hold_22 : decode cX9_hold 22 = .ok (.aload_n 0, 1) := by decide +kernel
theorem dX9_hold_23 : decode cX9_hold 23 = .ok (.iload_n 3, 1) := by decide +kernel
theorem dX9_hold_24 : decode cX9_hold 24 = .ok (.invokevirtual 294, 3) := by decide +kernel
theorem dX9_hold_27 : decode cX9_hold 27 = .ok (.iload_n 1, 1) := by decide +kernel
theorem dX9_hold_28 : decode cX9_hold 28 = .ok (.if_icmp .ne 9, 3) := by decide +kernel
theorem dX9_hold_31 : decode cX9_hold 31 = .ok (.iconst 1, 1) := by decide +kernel
theorem dX9_hold_32 : decode cX9_hold 32 = .ok (.iload_n 3, 1) := by decide +kernel
theorem dX9_hold_33 : decode cX9_hold 33 = .ok (.ishl, 1) := by decide +kernel
theorem dX9_hold_34 : decode cX9_hold 34 = .ok (.goto 4, 3) := by decide +kernel
theorem dX9_hold_37 : decode cX9_hold 37 = .ok (.iconst 0, 1) := by decide +kernel
theorem dX9_hold_38 : decode cX9_hold 38 = .ok (.ior, 1) := by decide +kernel
theorem dX9_hold_39 : decode cX9_hold 39 = .ok (.istore_n 2, 1) := by decide +kernel
theorem dX9_hold_40 : decode cX9_hold 40 = .ok (.iinc 3 1, 3) := by decide +kernel
theorem dX9_hold_43 : decode cX9_hold 43 = .ok (.goto (-27), 3) := by decide +kernel
theorem dX9_hold_46 : decode cX9_hold 46 = .ok (.iload_n 2, 1) := by decide +kernel
theorem dX9_hold_47 : decode cX9_hold 47 = .ok (.ireturn, 1) := by decide +kernel
theorem dX9_lowest_0 : decode cX9_lowest 0 = .ok (.lload_n 1, 1) := by decide +kernel
theorem dX9_lowest_1 : decode cX9_lowest 1 = .ok (.lstore 5, 2) := by decide +kernel
theorem dX9_lowest_3 : decode cX9_lowest 3 = .ok (.lload_n 3, 1) := by decide +kernel
theorem dX9_lowest_4 : decode cX9_lowest 4 = .ok (.lstore 7, 2) := by decide +kernel
theorem dX9_lowest_6 : decode cX9_lowest 6 = .ok (.lload 7, 2) := by decide +kernel
theorem dX9_lowest_8 : decode cX9_lowest 8 = .ok (.lconst 0, 1) := by decide +kernel
theorem dX9_lowest_9 : decode cX9_lowest 9 = .ok (.lcmp, 1) := by decide +kernel
theorem dX9_lowest_10 : decode cX9_lowest 10 = .ok (.ifCond .eq 21, 3) := by decide +kernel
theorem dX9_lowest_13 : decode cX9_lowest 13 = .ok (.lload 5, 2) := by decide +kernel
theorem dX9_lowest_15 : decode cX9_lowest 15 = .ok (.lload 7, 2) := by decide +kernel
theorem dX9_lowest_17 : decode cX9_lowest 17 = .ok (.lrem, 1) := by decide +kernel
theorem dX9_lowest_18 : decode cX9_lowest 18 = .ok (.lstore 9, 2) := by decide +kernel
theorem dX9_lowest_20 : decode cX9_lowest 20 = .ok (.lload 7, 2) := by decide +kernel
theorem dX9_lowest_22 : decode cX9_lowest 22 = .ok (.lstore 5, 2) := by decide +kernel
theorem dX9_lowest_24 : decode cX9_lowest 24 = .ok (.lload 9, 2) := by decide +kernel
theorem dX9_lowest_26 : decode cX9_lowest 26 = .ok (.lstore 7, 2) := by decide +kernel
theorem dX9_lowest_28 : decode cX9_lowest 28 = .ok (.goto (-22), 3) := by decide +kernel
theorem dX9_lowest_31 : decode cX9_lowest 31 = .ok (.aload_n 0, 1) := by decide +kernel
theorem dX9_lowest_32 : decode cX9_lowest 32 = .ok (.lload_n 1, 1) := by decide +kernel
theorem dX9_lowest_33 : decode cX9_lowest 33 = .ok (.lload 5, 2) := by decide +kernel
theorem dX9_lowest_35 : decode cX9_lowest 35 = .ok (.ldiv, 1) := by decide +kernel
theorem dX9_lowest_36 : decode cX9_lowest 36 = .ok (.putfield 297, 3) := by decide +kernel
theorem dX9_lowest_39 : decode cX9_lowest 39 = .ok (.aload_n 0, 1) := by decide +kernel
theorem dX9_lowest_40 : decode cX9_lowest 40 = .ok (.lload_n 3, 1) := by decide +kernel
theorem dX9_lowest_41 : decode cX9_lowest 41 = .ok (.lload 5, 2) := by decide +kernel
theorem dX9_lowest_43 : decode cX9_lowest 43 = .ok (.ldiv, 1) := by decide +kernel
theorem dX9_lowest_44 : decode cX9_lowest 44 = .ok (.putfield 300, 3) := by decide +kernel
theorem dX9_lowest_47 : decode cX9_lowest 47 = .ok (.return_, 1) := by decide +kernel
theorem dX9_odds_0 : decode cX9_odds 0 = .ok (.aload_n 0, 1) := by decide +kernel
theorem dX9_odds_1 : decode cX9_odds 1 = .ok (.iload_n 1, 1) := by decide +kernel
theorem dX9_odds_2 : decode cX9_odds 2 = .ok (.invokevirtual 245, 3) := by decide +kernel
theorem dX9_odds_5 : decode cX9_odds 5 = .ok (.ifCond .eq 10, 3) := by decide +kernel
theorem dX9_odds_8 : decode cX9_odds 8 = .ok (.iload_n 2, 1) := by decide +kernel
theorem dX9_odds_9 : decode cX9_odds 9 = .ok (.invokestatic 288, 3) := by decide +kernel
theorem dX9_odds_12 : decode cX9_odds 12 = .ok (.ifCond .ne 7, 3) := by decide +kernel
theorem dX9_odds_15 : decode cX9_odds 15 = .ok (.ldc2_w 152, 3) := by decide +kernel
theorem dX9_odds_18 : decode cX9_odds 18 = .ok (.lreturn, 1) := by decide +kernel
theorem dX9_odds_19 : decode cX9_odds 19 = .ok (.iconst 0, 1) := by decide +kernel
theorem dX9_odds_20 : decode cX9_odds 20 = .ok (.istore_n 3, 1) := by decide +kernel
theorem dX9_odds_21 : decode cX9_odds 21 = .ok (.iconst 0, 1) := by decide +kernel
theorem dX9_odds_22 : decode cX9_odds 22 = .ok (.istore 4, 2) := by decide +kernel
theorem dX9_odds_24 : decode cX9_odds 24 = .ok (.iconst 0, 1) := by decide +kernel
theorem dX9_odds_25 : decode cX9_odds 25 = .ok (.istore 5, 2) := by decide +kernel
theorem dX9_odds_27 : decode cX9_odds 27 = .ok (.iload 5, 2) := by decide +kernel
theorem dX9_odds_29 : decode cX9_odds 29 = .ok (.aload_n 0, 1) := by decide +kernel
theorem dX9_odds_30 : decode cX9_odds 30 = .ok (.getfield 113, 3) := by decide +kernel
theorem dX9_odds_33 : decode cX9_odds 33 = .ok (.if_icmp .ge 75, 3) := by decide +kernel
theorem dX9_odds_36 : decode cX9_odds 36 = .ok (.aload_n 0, 1) := by decide +kernel
theorem dX9_odds_37 : decode cX9_odds 37 = .ok (.iload 5, 2) := by decide +kernel
theorem dX9_odds_39 : decode cX9_odds 39 = .ok (.iconst 2, 1) := by decide +kernel
theorem dX9_odds_40 : decode cX9_odds 40 = .ok (.invokevirtual 235, 3) := by decide +kernel
theorem dX9_odds_43 : decode cX9_odds 43 = .ok (.aload_n 0, 1) := by decide +kernel
theorem dX9_odds_44 : decode cX9_odds 44 = .ok (.getfield 13, 3) := by decide +kernel
theorem dX9_odds_47 : decode cX9_odds 47 = .ok (.iload_n 1, 1) := by decide +kernel
theorem dX9_odds_48 : decode cX9_odds 48 = .ok (.iaload, 1) := by decide +kernel
theorem dX9_odds_49 : decode cX9_odds 49 = .ok (.if_icmp .ne 7, 3) := by decide +kernel
theorem dX9_odds_52 : decode cX9_odds 52 = .ok (.iconst 1, 1) := by decide +kernel
theorem dX9_odds_53 : decode cX9_odds 53 = .ok (.goto 4, 3) := by decide +kernel
theorem dX9_odds_56 : decode cX9_odds 56 = .ok (.iconst 0, 1) := by decide +kernel
theorem dX9_odds_57 : decode cX9_odds 57 = .ok (.istore 6, 2) := by decide +kernel
theorem dX9_odds_59 : decode cX9_odds 59 = .ok (.iload_n 3, 1) := by decide +kernel
theorem dX9_odds_60 : decode cX9_odds 60 = .ok (.iload 6, 2) := by decide +kernel
theorem dX9_odds_62 : decode cX9_odds 62 = .ok (.ifCond .eq 7, 3) := by decide +kernel
theorem dX9_odds_65 : decode cX9_odds 65 = .ok (.iconst 1, 1) := by decide +kernel
theorem dX9_odds_66 : decode cX9_odds 66 = .ok (.goto 4, 3) := by decide +kernel
theorem dX9_odds_69 : decode cX9_odds 69 = .ok (.iconst 0, 1) := by decide +kernel
theorem dX9_odds_70 : decode cX9_odds 70 = .ok (.iadd, 1) := by decide +kernel
theorem dX9_odds_71 : decode cX9_odds 71 = .ok (.istore_n 3, 1) := by decide +kernel
theorem dX9_odds_72 : decode cX9_odds 72 = .ok (.iload 4, 2) := by decide +kernel
theorem dX9_odds_74 : decode cX9_odds 74 = .ok (.iload 6, 2) := by decide +kernel
theorem dX9_odds_76 : decode cX9_odds 76 = .ok (.ifCond .eq 22, 3) := by decide +kernel
theorem dX9_odds_79 : decode cX9_odds 79 = .ok (.aload_n 0, 1) := by decide +kernel
theorem dX9_odds_80 : decode cX9_odds 80 = .ok (.iload 5, 2) := by decide +kernel
theorem dX9_odds_82 : decode cX9_odds 82 = .ok (.aload_n 0, 1) := by decide +kernel
theorem dX9_odds_83 : decode cX9_odds 83 = .ok (.getfield 19, 3) := by decide +kernel
theorem dX9_odds_86 : decode cX9_odds 86 = .ok (.iload_n 1, 1) := by decide +kernel
theorem dX9_odds_87 : decode cX9_odds 87 = .ok (.iaload, 1) := by decide +kernel
theorem dX9_odds_88 : decode cX9_odds 88 = .ok (.invokevirtual 242, 3) := by decide +kernel
theorem dX9_odds_91 : decode cX9_odds 91 = .ok (.ifCond .eq 7, 3) := by decide +kernel
theorem dX9_odds_94 : decode cX9_odds 94 = .ok (.iconst 1, 1) := by decide +kernel
theorem dX9_odds_95 : decode cX9_odds 95 = .ok (.goto 4, 3) := by decide +kernel
theorem dX9_odds_98 : decode cX9_odds 98 = .ok (.iconst 0, 1) := by decide +kernel
theorem dX9_odds_99 : decode cX9_odds 99 = .ok (.iadd, 1) := by decide +kernel
theorem dX9_odds_100 : decode cX9_odds 100 = .ok (.istore 4, 2) := by decide +kernel
theorem dX9_odds_102 : decode cX9_odds 102 = .ok (.iinc 5 1, 3) := by decide +kernel
theorem dX9_odds_105 : decode cX9_odds 105 = .ok (.goto (-78), 3) := by decide +kernel
theorem dX9_odds_108 : decode cX9_odds 108 = .ok (.aload_n 0, 1) := by decide +kernel
theorem dX9_odds_109 : decode cX9_odds 109 = .ok (.getfield 7, 3) := by decide +kernel
theorem dX9_odds_112 : decode cX9_odds 112 = .ok (.aload_n 0, 1) := by decide +kernel
theorem dX9_odds_113 : decode cX9_odds 113 = .ok (.getfield 13, 3) := by decide +kernel
theorem dX9_odds_116 : decode cX9_odds 116 = .ok (.iload_n 1, 1) := by decide +kernel
theorem dX9_odds_117 : decode cX9_odds 117 = .ok (.iaload, 1) := by decide +kernel
theorem dX9_odds_118 : decode cX9_odds 118 = .ok (.iaload, 1) := by decide +kernel
theorem dX9_odds_119 : decode cX9_odds 119 = .ok (.istore 5, 2) := by decide +kernel
theorem dX9_odds_121 : decode cX9_odds 121 = .ok (.aload_n 0, 1) := by decide +kernel
theorem dX9_odds_122 : decode cX9_odds 122 = .ok (.getfield 63, 3) := by decide +kernel
theorem dX9_odds_125 : decode cX9_odds 125 = .ok (.iconst 0, 1) := by decide +kernel
theorem dX9_odds_126 : decode cX9_odds 126 = .ok (.lconst 1, 1) := by decide +kernel
theorem dX9_odds_127 : decode cX9_odds 127 = .ok (.lastore, 1) := by decide +kernel
theorem dX9_odds_128 : decode cX9_odds 128 = .ok (.lconst 1, 1) := by decide +kernel
theorem dX9_odds_129 : decode cX9_odds 129 = .ok (.lstore 6, 2) := by decide +kernel
theorem dX9_odds_131 : decode cX9_odds 131 = .ok (.iconst 0, 1) := by decide +kernel
theorem dX9_odds_132 : decode cX9_odds 132 = .ok (.istore 8, 2) := by decide +kernel
theorem dX9_odds_134 : decode cX9_odds 134 = .ok (.iload 8, 2) := by decide +kernel
theorem dX9_odds_136 : decode cX9_odds 136 = .ok (.iload_n 3, 1) := by decide +kernel
theorem dX9_odds_137 : decode cX9_odds 137 = .ok (.if_icmp .ge 92, 3) := by decide +kernel
theorem dX9_odds_140 : decode cX9_odds 140 = .ok (.aload_n 0, 1) := by decide +kernel
theorem dX9_odds_141 : decode cX9_odds 141 = .ok (.getfield 63, 3) := by decide +kernel
theorem dX9_odds_144 : decode cX9_odds 144 = .ok (.iload 8, 2) := by decide +kernel
theorem dX9_odds_146 : decode cX9_odds 146 = .ok (.iconst 1, 1) := by decide +kernel
theorem dX9_odds_147 : decode cX9_odds 147 = .ok (.iadd, 1) := by decide +kernel
theorem dX9_odds_148 : decode cX9_odds 148 = .ok (.lconst 0, 1) := by decide +kernel
theorem dX9_odds_149 : decode cX9_odds 149 = .ok (.lastore, 1) := by decide +kernel
theorem dX9_odds_150 : decode cX9_odds 150 = .ok (.iload 8, 2) := by decide +kernel
theorem dX9_odds_152 : decode cX9_odds 152 = .ok (.iconst 1, 1) := by decide +kernel
theorem dX9_odds_153 : decode cX9_odds 153 = .ok (.iadd, 1) := by decide +kernel
theorem dX9_odds_154 : decode cX9_odds 154 = .ok (.istore 9, 2) := by decide +kernel
theorem dX9_odds_156 : decode cX9_odds 156 = .ok (.iload 9, 2) := by decide +kernel
theorem dX9_odds_158 : decode cX9_odds 158 = .ok (.ifCond .le 43, 3) := by decide +kernel
theorem dX9_odds_161 : decode cX9_odds 161 = .ok (.aload_n 0, 1) := by decide +kernel
theorem dX9_odds_162 : decode cX9_odds 162 = .ok (.getfield 63, 3) := by decide +kernel
theorem dX9_odds_165 : decode cX9_odds 165 = .ok (.iload 9, 2) := by decide +kernel
theorem dX9_odds_167 : decode cX9_odds 167 = .ok (.aload_n 0, 1) := by decide +kernel
theorem dX9_odds_168 : decode cX9_odds 168 = .ok (.getfield 63, 3) := by decide +kernel
theorem dX9_odds_171 : decode cX9_odds 171 = .ok (.iload 9, 2) := by decide +kernel
theorem dX9_odds_173 : decode cX9_odds 173 = .ok (.laload, 1) := by decide +kernel
theorem dX9_odds_174 : decode cX9_odds 174 = .ok (.iload 5, 2) := by decide +kernel
theorem dX9_odds_176 : decode cX9_odds 176 = .ok (.iconst 4, 1) := by decide +kernel
theorem dX9_odds_177 : decode cX9_odds 177 = .ok (.isub, 1) := by decide +kernel
theorem dX9_odds_178 : decode cX9_odds 178 = .ok (.i2l, 1) := by decide +kernel
theorem dX9_odds_179 : decode cX9_odds 179 = .ok (.lmul, 1) := by decide +kernel
theorem dX9_odds_180 : decode cX9_odds 180 = .ok (.aload_n 0, 1) := by decide +kernel
theorem dX9_odds_181 : decode cX9_odds 181 = .ok (.getfield 63, 3) := by decide +kernel
theorem dX9_odds_184 : decode cX9_odds 184 = .ok (.iload 9, 2) := by decide +kernel
theorem dX9_odds_186 : decode cX9_odds 186 = .ok (.iconst 1, 1) := by decide +kernel
theorem dX9_odds_187 : decode cX9_odds 187 = .ok (.isub, 1) := by decide +kernel
theorem dX9_odds_188 : decode cX9_odds 188 = .ok (.laload, 1) := by decide +kernel
theorem dX9_odds_189 : decode cX9_odds 189 = .ok (.ldc2_w 303, 3) := by decide +kernel
theorem dX9_odds_192 : decode cX9_odds 192 = .ok (.lmul, 1) := by decide +kernel
theorem dX9_odds_193 : decode cX9_odds 193 = .ok (.ladd, 1) := by decide +kernel
theorem dX9_odds_194 : decode cX9_odds 194 = .ok (.lastore, 1) := by decide +kernel
theorem dX9_odds_195 : decode cX9_odds 195 = .ok (.iinc 9 (-1), 3) := by decide +kernel
theorem dX9_odds_198 : decode cX9_odds 198 = .ok (.goto (-42), 3) := by decide +kernel
theorem dX9_odds_201 : decode cX9_odds 201 = .ok (.aload_n 0, 1) := by decide +kernel
theorem dX9_odds_202 : decode cX9_odds 202 = .ok (.getfield 63, 3) := by decide +kernel
theorem dX9_odds_205 : decode cX9_odds 205 = .ok (.iconst 0, 1) := by decide +kernel
theorem dX9_odds_206 : decode cX9_odds 206 = .ok (.dup2, 1) := by decide +kernel
theorem dX9_odds_207 : decode cX9_odds 207 = .ok (.laload, 1) := by decide +kernel
theorem dX9_odds_208 : decode cX9_odds 208 = .ok (.iload 5, 2) := by decide +kernel
theorem dX9_odds_210 : decode cX9_odds 210 = .ok (.iconst 4, 1) := by decide +kernel
theorem dX9_odds_211 : decode cX9_odds 211 = .ok (.isub, 1) := by decide +kernel
theorem dX9_odds_212 : decode cX9_odds 212 = .ok (.i2l, 1) := by decide +kernel
theorem dX9_odds_213 : decode cX9_odds 213 = .ok (.lmul, 1) := by decide +kernel
theorem dX9_odds_214 : decode cX9_odds 214 = .ok (.lastore, 1) := by decide +kernel
theorem dX9_odds_215 : decode cX9_odds 215 = .ok (.lload 6, 2) := by decide +kernel
theorem dX9_odds_217 : decode cX9_odds 217 = .ok (.iload 5, 2) := by decide +kernel
theorem dX9_odds_219 : decode cX9_odds 219 = .ok (.i2l, 1) := by decide +kernel
theorem dX9_odds_220 : decode cX9_odds 220 = .ok (.lmul, 1) := by decide +kernel
theorem dX9_odds_221 : decode cX9_odds 221 = .ok (.lstore 6, 2) := by decide +kernel
theorem dX9_odds_223 : decode cX9_odds 223 = .ok (.iinc 8 1, 3) := by decide +kernel
theorem dX9_odds_226 : decode cX9_odds 226 = .ok (.goto (-92), 3) := by decide +kernel
theorem dX9_odds_229 : decode cX9_odds 229 = .ok (.lconst 0, 1) := by decide +kernel
theorem dX9_odds_230 : decode cX9_odds 230 = .ok (.lstore 8, 2) := by decide +kernel
theorem dX9_odds_232 : decode cX9_odds 232 = .ok (.iload 4, 2) := by decide +kernel
theorem dX9_odds_234 : decode cX9_odds 234 = .ok (.istore 10, 2) := by decide +kernel
theorem dX9_odds_236 : decode cX9_odds 236 = .ok (.iload 10, 2) := by decide +kernel
theorem dX9_odds_238 : decode cX9_odds 238 = .ok (.iload_n 3, 1) := by decide +kernel
theorem dX9_odds_239 : decode cX9_odds 239 = .ok (.if_icmp .gt 21, 3) := by decide +kernel
theorem dX9_odds_242 : decode cX9_odds 242 = .ok (.lload 8, 2) := by decide +kernel
theorem dX9_odds_244 : decode cX9_odds 244 = .ok (.aload_n 0, 1) := by decide +kernel
theorem dX9_odds_245 : decode cX9_odds 245 = .ok (.getfield 63, 3) := by decide +kernel
theorem dX9_odds_248 : decode cX9_odds 248 = .ok (.iload 10, 2) := by decide +kernel
theorem dX9_odds_250 : decode cX9_odds 250 = .ok (.laload, 1) := by decide +kernel
theorem dX9_odds_251 : decode cX9_odds 251 = .ok (.ladd, 1) := by decide +kernel
theorem dX9_odds_252 : decode cX9_odds 252 = .ok (.lstore 8, 2) := by decide +kernel
theorem dX9_odds_254 : decode cX9_odds 254 = .ok (.iinc 10 1, 3) := by decide +kernel
theorem dX9_odds_257 : decode cX9_odds 257 = .ok (.goto (-21), 3) := by decide +kernel
theorem dX9_odds_260 : decode cX9_odds 260 = .ok (.aload_n 0, 1) := by decide +kernel
theorem dX9_odds_261 : decode cX9_odds 261 = .ok (.lload 8, 2) := by decide +kernel
theorem dX9_odds_263 : decode cX9_odds 263 = .ok (.lload 6, 2) := by decide +kernel
theorem dX9_odds_265 : decode cX9_odds 265 = .ok (.invokevirtual 305, 3) := by decide +kernel
theorem dX9_odds_268 : decode cX9_odds 268 = .ok (.iload_n 2, 1) := by decide +kernel
theorem dX9_odds_269 : decode cX9_odds 269 = .ok (.ifCond .ne 10, 3) := by decide +kernel
theorem dX9_odds_272 : decode cX9_odds 272 = .ok (.aload_n 0, 1) := by decide +kernel
theorem dX9_odds_273 : decode cX9_odds 273 = .ok (.getfield 297, 3) := by decide +kernel
theorem dX9_odds_276 : decode cX9_odds 276 = .ok (.goto 7, 3) := by decide +kernel
theorem dX9_odds_279 : decode cX9_odds 279 = .ok (.aload_n 0, 1) := by decide +kernel
theorem dX9_odds_280 : decode cX9_odds 280 = .ok (.getfield 300, 3) := by decide +kernel
theorem dX9_odds_283 : decode cX9_odds 283 = .ok (.lreturn, 1) := by decide +kernel
theorem dX9_likelyOf_0 : decode cX9_likelyOf 0 = .ok (.iconst 0, 1) := by decide +kernel
theorem dX9_likelyOf_1 : decode cX9_likelyOf 1 = .ok (.istore_n 2, 1) := by decide +kernel
theorem dX9_likelyOf_2 : decode cX9_likelyOf 2 = .ok (.iconst 0, 1) := by decide +kernel
theorem dX9_likelyOf_3 : decode cX9_likelyOf 3 = .ok (.istore_n 3, 1) := by decide +kernel
theorem dX9_likelyOf_4 : decode cX9_likelyOf 4 = .ok (.iload_n 3, 1) := by decide +kernel
theorem dX9_likelyOf_5 : decode cX9_likelyOf 5 = .ok (.aload_n 0, 1) := by decide +kernel
theorem dX9_likelyOf_6 : decode cX9_likelyOf 6 = .ok (.getfield 113, 3) := by decide +kernel
theorem dX9_likelyOf_9 : decode cX9_likelyOf 9 = .ok (.if_icmp .ge 27, 3) := by decide +kernel
theorem dX9_likelyOf_12 : decode cX9_likelyOf 12 = .ok (.iload_n 2, 1) := by decide +kernel
theorem dX9_likelyOf_13 : decode cX9_likelyOf 13 = .ok (.iload_n 3, 1) := by decide +kernel
theorem dX9_likelyOf_14 : decode cX9_likelyOf 14 = .ok (.iload_n 1, 1) := by decide +kernel
theorem dX9_likelyOf_15 : decode cX9_likelyOf 15 = .ok (.if_icmp .ne 7, 3) := by decide +kernel
theorem dX9_likelyOf_18 : decode cX9_likelyOf 18 = .ok (.iconst 0, 1) := by decide +kernel
theorem dX9_likelyOf_19 : decode cX9_likelyOf 19 = .ok (.goto 9, 3) := by decide +kernel
theorem dX9_likelyOf_22 : decode cX9_likelyOf 22 = .ok (.aload_n 0, 1) := by decide +kernel
theorem dX9_likelyOf_23 : decode cX9_likelyOf 23 = .ok (.iload_n 3, 1) := by decide +kernel
theorem dX9_likelyOf_24 : decode cX9_likelyOf 24 = .ok (.iload_n 1, 1) := by decide +kernel
theorem dX9_likelyOf_25 : decode cX9_likelyOf 25 = .ok (.invokevirtual 263, 3) := by decide +kernel
theorem dX9_likelyOf_28 : decode cX9_likelyOf 28 = .ok (.iadd, 1) := by decide +kernel
theorem dX9_likelyOf_29 : decode cX9_likelyOf 29 = .ok (.istore_n 2, 1) := by decide +kernel
theorem dX9_likelyOf_30 : decode cX9_likelyOf 30 = .ok (.iinc 3 1, 3) := by decide +kernel
theorem dX9_likelyOf_33 : decode cX9_likelyOf 33 = .ok (.goto (-29), 3) := by decide +kernel
theorem dX9_likelyOf_36 : decode cX9_likelyOf 36 = .ok (.iload_n 2, 1) := by decide +kernel
theorem dX9_likelyOf_37 : decode cX9_likelyOf 37 = .ok (.bipush 9, 2) := by decide +kernel
theorem dX9_likelyOf_39 : decode cX9_likelyOf 39 = .ok (.if_icmp .le 8, 3) := by decide +kernel
theorem dX9_likelyOf_42 : decode cX9_likelyOf 42 = .ok (.bipush 9, 2) := by decide +kernel
theorem dX9_likelyOf_44 : decode cX9_likelyOf 44 = .ok (.goto 4, 3) := by decide +kernel
theorem dX9_likelyOf_47 : decode cX9_likelyOf 47 = .ok (.iload_n 2, 1) := by decide +kernel
theorem dX9_likelyOf_48 : decode cX9_likelyOf 48 = .ok (.ireturn, 1) := by decide +kernel
theorem dX9_likely_0 : decode cX9_likely 0 = .ok (.aload_n 0, 1) := by decide +kernel
theorem dX9_likely_1 : decode cX9_likely 1 = .ok (.iload_n 1, 1) := by decide +kernel
theorem dX9_likely_2 : decode cX9_likely 2 = .ok (.invokevirtual 254, 3) := by decide +kernel
theorem dX9_likely_5 : decode cX9_likely 5 = .ok (.ifCond .eq 11, 3) := by decide +kernel
theorem dX9_likely_8 : decode cX9_likely 8 = .ok (.aload_n 0, 1) := by decide +kernel
theorem dX9_likely_9 : decode cX9_likely 9 = .ok (.iload_n 1, 1) := by decide +kernel
theorem dX9_likely_10 : decode cX9_likely 10 = .ok (.invokevirtual 309, 3) := by decide +kernel
theorem dX9_likely_13 : decode cX9_likely 13 = .ok (.goto 4, 3) := by decide +kernel
theorem dX9_likely_16 : decode cX9_likely 16 = .ok (.iconst (-1), 1) := by decide +kernel
theorem dX9_likely_17 : decode cX9_likely 17 = .ok (.ireturn, 1) := by decide +kernel
theorem dX9_peopleIn_0 : decode cX9_peopleIn 0 = .ok (.iconst 0, 1) := by decide +kernel
theorem dX9_peopleIn_1 : decode cX9_peopleIn 1 = .ok (.istore_n 2, 1) := by decide +kernel
theorem dX9_peopleIn_2 : decode cX9_peopleIn 2 = .ok (.iconst 0, 1) := by decide +kernel
theorem dX9_peopleIn_3 : decode cX9_peopleIn 3 = .ok (.istore_n 3, 1) := by decide +kernel
theorem dX9_peopleIn_4 : decode cX9_peopleIn 4 = .ok (.iload_n 3, 1) := by decide +kernel
theorem dX9_peopleIn_5 : decode cX9_peopleIn 5 = .ok (.iconst 4, 1) := by decide +kernel
theorem dX9_peopleIn_6 : decode cX9_peopleIn 6 = .ok (.if_icmp .ge 28, 3) := by decide +kernel
theorem dX9_peopleIn_9 : decode cX9_peopleIn 9 = .ok (.iload_n 2, 1) := by decide +kernel
theorem dX9_peopleIn_10 : decode cX9_peopleIn 10 = .ok (.aload_n 0, 1) := by decide +kernel
theorem dX9_peopleIn_11 : decode cX9_peopleIn 11 = .ok (.iload_n 1, 1) := by decide +kernel
theorem dX9_peopleIn_12 : decode cX9_peopleIn 12 = .ok (.iconst 5, 1) := by decide +kernel
theorem dX9_peopleIn_13 : decode cX9_peopleIn 13 = .ok (.iload_n 3, 1) := by decide +kernel
theorem dX9_peopleIn_14 : decode cX9_peopleIn 14 = .ok (.iadd, 1) := by decide +kernel
theorem dX9_peopleIn_15 : decode cX9_peopleIn 15 = .ok (.invokevirtual 235, 3) := by decide +kernel
theorem dX9_peopleIn_18 : decode cX9_peopleIn 18 = .ok (.ifCond .lt 7, 3) := by decide +kernel
theorem dX9_peopleIn_21 : decode cX9_peopleIn 21 = .ok (.iconst 1, 1) := by decide +kernel
theorem dX9_peopleIn_22 : decode cX9_peopleIn 22 = .ok (.goto 4, 3) := by decide +kernel
theorem dX9_peopleIn_25 : decode cX9_peopleIn 25 = .ok (.iconst 0, 1) := by decide +kernel
theorem dX9_peopleIn_26 : decode cX9_peopleIn 26 = .ok (.iadd, 1) := by decide +kernel
theorem dX9_peopleIn_27 : decode cX9_peopleIn 27 = .ok (.istore_n 2, 1) := by decide +kernel
theorem dX9_peopleIn_28 : decode cX9_peopleIn 28 = .ok (.iinc 3 1, 3) := by decide +kernel
theorem dX9_peopleIn_31 : decode cX9_peopleIn 31 = .ok (.goto (-27), 3) := by decide +kernel
theorem dX9_peopleIn_34 : decode cX9_peopleIn 34 = .ok (.iload_n 2, 1) := by decide +kernel
theorem dX9_peopleIn_35 : decode cX9_peopleIn 35 = .ok (.ireturn, 1) := by decide +kernel
theorem dX9_best_0 : decode cX9_best 0 = .ok (.iload_n 1, 1) := by decide +kernel
theorem dX9_best_1 : decode cX9_best 1 = .ok (.invokestatic 288, 3) := by decide +kernel
theorem dX9_best_4 : decode cX9_best 4 = .ok (.ifCond .ne 5, 3) := by decide +kernel
theorem dX9_best_7 : decode cX9_best 7 = .ok (.iconst (-1), 1) := by decide +kernel
theorem dX9_best_8 : decode cX9_best 8 = .ok (.ireturn, 1) := by decide +kernel
theorem dX9_best_9 : decode cX9_best 9 = .ok (.iconst 0, 1) := by decide +kernel
theorem dX9_best_10 : decode cX9_best 10 = .ok (.istore_n 2, 1) := by decide +kernel
theorem dX9_best_11 : decode cX9_best 11 = .ok (.iload_n 2, 1) := by decide +kernel
theorem dX9_best_12 : decode cX9_best 12 = .ok (.aload_n 0, 1) := by decide +kernel
theorem dX9_best_13 : decode cX9_best 13 = .ok (.getfield 113, 3) := by decide +kernel
theorem dX9_best_16 : decode cX9_best 16 = .ok (.if_icmp .ge 55, 3) := by decide +kernel
theorem dX9_best_19 : decode cX9_best 19 = .ok (.aload_n 0, 1) := by decide +kernel
theorem dX9_best_20 : decode cX9_best 20 = .ok (.iload_n 2, 1) := by decide +kernel
theorem dX9_best_21 : decode cX9_best 21 = .ok (.invokevirtual 309, 3) := by decide +kernel
theorem dX9_best_24 : decode cX9_best 24 = .ok (.istore_n 3, 1) := by decide +kernel
theorem dX9_best_25 : decode cX9_best 25 = .ok (.aload_n 0, 1) := by decide +kernel
theorem dX9_best_26 : decode cX9_best 26 = .ok (.getfield 67, 3) := by decide +kernel
theorem dX9_best_29 : decode cX9_best 29 = .ok (.iload_n 2, 1) := by decide +kernel
theorem dX9_best_30 : decode cX9_best 30 = .ok (.iconst 1, 1) := by decide +kernel
theorem dX9_best_31 : decode cX9_best 31 = .ok (.aload_n 0, 1) := by decide +kernel
theorem dX9_best_32 : decode cX9_best 32 = .ok (.iload_n 2, 1) := by decide +kernel
theorem dX9_best_33 : decode cX9_best 33 = .ok (.invokevirtual 312, 3) := by decide +kernel
theorem dX9_best_36 : decode cX9_best 36 = .ok (.iadd, 1) := by decide +kernel
theorem dX9_best_37 : decode cX9_best 37 = .ok (.iastore, 1) := by decide +kernel
theorem dX9_best_38 : decode cX9_best 38 = .ok (.aload_n 0, 1) := by decide +kernel
theorem dX9_best_39 : decode cX9_best 39 = .ok (.getfield 70, 3) := by decide +kernel
theorem dX9_best_42 : decode cX9_best 42 = .ok (.iload_n 2, 1) := by decide +kernel
theorem dX9_best_43 : decode cX9_best 43 = .ok (.iload_n 3, 1) := by decide +kernel
theorem dX9_best_44 : decode cX9_best 44 = .ok (.aload_n 0, 1) := by decide +kernel
theorem dX9_best_45 : decode cX9_best 45 = .ok (.iload_n 2, 1) := by decide +kernel
theorem dX9_best_46 : decode cX9_best 46 = .ok (.iconst 4, 1) := by decide +kernel
theorem dX9_best_47 : decode cX9_best 47 = .ok (.invokevirtual 235, 3) := by decide +kernel
theorem dX9_best_50 : decode cX9_best 50 = .ok (.imul, 1) := by decide +kernel
theorem dX9_best_51 : decode cX9_best 51 = .ok (.aload_n 0, 1) := by decide +kernel
theorem dX9_best_52 : decode cX9_best 52 = .ok (.getfield 25, 3) := by decide +kernel
theorem dX9_best_55 : decode cX9_best 55 = .ok (.bipush 6, 2) := by decide +kernel
theorem dX9_best_57 : decode cX9_best 57 = .ok (.iaload, 1) := by decide +kernel
theorem dX9_best_58 : decode cX9_best 58 = .ok (.bipush 10, 2) := by decide +kernel
theorem dX9_best_60 : decode cX9_best 60 = .ok (.iload_n 3, 1) := by decide +kernel
theorem dX9_best_61 : decode cX9_best 61 = .ok (.isub, 1) := by decide +kernel
theorem dX9_best_62 : decode cX9_best 62 = .ok (.imul, 1) := by decide +kernel
theorem dX9_best_63 : decode cX9_best 63 = .ok (.isub, 1) := by decide +kernel
theorem dX9_best_64 : decode cX9_best 64 = .ok (.iastore, 1) := by decide +kernel
theorem dX9_best_65 : decode cX9_best 65 = .ok (.iinc 2 1, 3) := by decide +kernel
theorem dX9_best_68 : decode cX9_best 68 = .ok (.goto (-57), 3) := by decide +kernel
theorem dX9_best_71 : decode cX9_best 71 = .ok (.iconst 0, 1) := by decide +kernel
theorem dX9_best_72 : decode cX9_best 72 = .ok (.istore_n 2, 1) := by decide +kernel
theorem dX9_best_73 : decode cX9_best 73 = .ok (.iconst 0, 1) := by decide +kernel
theorem dX9_best_74 : decode cX9_best 74 = .ok (.istore_n 3, 1) := by decide +kernel
theorem dX9_best_75 : decode cX9_best 75 = .ok (.iconst 1, 1) := by decide +kernel
theorem dX9_best_76 : decode cX9_best 76 = .ok (.istore 4, 2) := by decide +kernel
theorem dX9_best_78 : decode cX9_best 78 = .ok (.iload 4, 2) := by decide +kernel
theorem dX9_best_80 : decode cX9_best 80 = .ok (.iconst 1, 1) := by decide +kernel
theorem dX9_best_81 : decode cX9_best 81 = .ok (.aload_n 0, 1) := by decide +kernel
theorem dX9_best_82 : decode cX9_best 82 = .ok (.getfield 113, 3) := by decide +kernel
theorem dX9_best_85 : decode cX9_best 85 = .ok (.ishl, 1) := by decide +kernel
theorem dX9_best_86 : decode cX9_best 86 = .ok (.if_icmp .ge 110, 3) := by decide +kernel
theorem dX9_best_89 : decode cX9_best 89 = .ok (.iconst 0, 1) := by decide +kernel
theorem dX9_best_90 : decode cX9_best 90 = .ok (.istore 5, 2) := by decide +kernel
theorem dX9_best_92 : decode cX9_best 92 = .ok (.iconst 0, 1) := by decide +kernel
theorem dX9_best_93 : decode cX9_best 93 = .ok (.istore 6, 2) := by decide +kernel
theorem dX9_best_95 : decode cX9_best 95 = .ok (.iconst 0, 1) := by decide +kernel
theorem dX9_best_96 : decode cX9_best 96 = .ok (.istore 7, 2) := by decide +kernel
theorem dX9_best_98 : decode cX9_best 98 = .ok (.iload 7, 2) := by decide +kernel
theorem dX9_best_100 : decode cX9_best 100 = .ok (.aload_n 0, 1) := by decide +kernel
theorem dX9_best_101 : decode cX9_best 101 = .ok (.getfield 113, 3) := by decide +kernel
theorem dX9_best_104 : decode cX9_best 104 = .ok (.if_icmp .ge 63, 3) := by decide +kernel
theorem dX9_best_107 : decode cX9_best 107 = .ok (.iload 5, 2) := by decide +kernel
theorem dX9_best_109 : decode cX9_best 109 = .ok (.iload 4, 2) := by decide +kernel
theorem dX9_best_111 : decode cX9_best 111 = .ok (.iload 7, 2) := by decide +kernel
theorem dX9_best_113 : decode cX9_best 113 = .ok (.ishr, 1) := by decide +kernel
theorem dX9_best_114 : decode cX9_best 114 = .ok (.iconst 1, 1) := by decide +kernel
theorem dX9_best_115 : decode cX9_best 115 = .ok (.iand, 1) := by decide +kernel
theorem dX9_best_116 : decode cX9_best 116 = .ok (.iconst 1, 1) := by decide +kernel
theorem dX9_best_117 : decode cX9_best 117 = .ok (.if_icmp .ne 13, 3) := by decide +kernel
theorem dX9_best_120 : decode cX9_best 120 = .ok (.aload_n 0, 1) := by decide +kernel
theorem dX9_best_121 : decode cX9_best 121 = .ok (.getfield 67, 3) := by decide +kernel
theorem dX9_best_124 : decode cX9_best 124 = .ok (.iload 7, 2) := by decide +kernel
theorem dX9_best_126 : decode cX9_best 126 = .ok (.iaload, 1) := by decide +kernel
theorem dX9_best_127 : decode cX9_best 127 = .ok (.goto 4, 3) := by decide +kernel
theorem dX9_best_130 : decode cX9_best 130 = .ok (.iconst 0, 1) := by decide +kernel
theorem dX9_best_131 : decode cX9_best 131 = .ok (.iadd, 1) := by decide +kernel
theorem dX9_best_132 : decode cX9_best 132 = .ok (.istore 5, 2) := by decide +kernel
theorem dX9_best_134 : decode cX9_best 134 = .ok (.iload 6, 2) := by decide +kernel
theorem dX9_best_136 : decode cX9_best 136 = .ok (.iload 4, 2) := by decide +kernel
theorem dX9_best_138 : decode cX9_best 138 = .ok (.iload 7, 2) := by decide +kernel
theorem dX9_best_140 : decode cX9_best 140 = .ok (.ishr, 1) := by decide +kernel
theorem dX9_best_141 : decode cX9_best 141 = .ok (.iconst 1, 1) := by decide +kernel
theorem dX9_best_142 : decode cX9_best 142 = .ok (.iand, 1) := by decide +kernel
theorem dX9_best_143 : decode cX9_best 143 = .ok (.iconst 1, 1) := by decide +kernel
theorem dX9_best_144 : decode cX9_best 144 = .ok (.if_icmp .ne 13, 3) := by decide +kernel
theorem dX9_best_147 : decode cX9_best 147 = .ok (.aload_n 0, 1) := by decide +kernel
theorem dX9_best_148 : decode cX9_best 148 = .ok (.getfield 70, 3) := by decide +kernel
theorem dX9_best_151 : decode cX9_best 151 = .ok (.iload 7, 2) := by decide +kernel
theorem dX9_best_153 : decode cX9_best 153 = .ok (.iaload, 1) := by decide +kernel
theorem dX9_best_154 : decode cX9_best 154 = .ok (.goto 4, 3) := by decide +kernel
theorem dX9_best_157 : decode cX9_best 157 = .ok (.iconst 0, 1) := by decide +kernel
theorem dX9_best_158 : decode cX9_best 158 = .ok (.iadd, 1) := by decide +kernel
theorem dX9_best_159 : decode cX9_best 159 = .ok (.istore 6, 2) := by decide +kernel
theorem dX9_best_161 : decode cX9_best 161 = .ok (.iinc 7 1, 3) := by decide +kernel
theorem dX9_best_164 : decode cX9_best 164 = .ok (.goto (-66), 3) := by decide +kernel
theorem dX9_best_167 : decode cX9_best 167 = .ok (.iload 5, 2) := by decide +kernel
theorem dX9_best_169 : decode cX9_best 169 = .ok (.aload_n 0, 1) := by decide +kernel
theorem dX9_best_170 : decode cX9_best 170 = .ok (.getfield 25, 3) := by decide +kernel
theorem dX9_best_173 : decode cX9_best 173 = .ok (.iconst 5, 1) := by decide +kernel
theorem dX9_best_174 : decode cX9_best 174 = .ok (.iaload, 1) := by decide +kernel
theorem dX9_best_175 : decode cX9_best 175 = .ok (.if_icmp .gt 15, 3) := by decide +kernel
theorem dX9_best_178 : decode cX9_best 178 = .ok (.iload 6, 2) := by decide +kernel
theorem dX9_best_180 : decode cX9_best 180 = .ok (.iload_n 3, 1) := by decide +kernel
theorem dX9_best_181 : decode cX9_best 181 = .ok (.if_icmp .le 9, 3) := by decide +kernel
theorem dX9_best_184 : decode cX9_best 184 = .ok (.iload 4, 2) := by decide +kernel
theorem dX9_best_186 : decode cX9_best 186 = .ok (.istore_n 2, 1) := by decide +kernel
theorem dX9_best_187 : decode cX9_best 187 = .ok (.iload 6, 2) := by decide +kernel
theorem dX9_best_189 : decode cX9_best 189 = .ok (.istore_n 3, 1) := by decide +kernel
theorem dX9_best_190 : decode cX9_best 190 = .ok (.iinc 4 1, 3) := by decide +kernel
theorem dX9_best_193 : decode cX9_best 193 = .ok (.goto (-115), 3) := by decide +kernel
theorem dX9_best_196 : decode cX9_best 196 = .ok (.iload_n 1, 1) := by decide +kernel
theorem dX9_best_197 : decode cX9_best 197 = .ok (.ifCond .ne 7, 3) := by decide +kernel
theorem dX9_best_200 : decode cX9_best 200 = .ok (.iload_n 2, 1) := by decide +kernel
theorem dX9_best_201 : decode cX9_best 201 = .ok (.goto 8, 3) := by decide +kernel
theorem dX9_best_204 : decode cX9_best 204 = .ok (.ldc_w 281, 3) := by decide +kernel
theorem dX9_best_207 : decode cX9_best 207 = .ok (.iload_n 3, 1) := by decide +kernel
theorem dX9_best_208 : decode cX9_best 208 = .ok (.iadd, 1) := by decide +kernel
theorem dX9_best_209 : decode cX9_best 209 = .ok (.ireturn, 1) := by decide +kernel
theorem dX9_saysOf_0 : decode cX9_saysOf 0 = .ok (.aload_n 0, 1) := by decide +kernel
theorem dX9_saysOf_1 : decode cX9_saysOf 1 = .ok (.getfield 44, 3) := by decide +kernel
theorem dX9_saysOf_4 : decode cX9_saysOf 4 = .ok (.iconst 0, 1) := by decide +kernel
theorem dX9_saysOf_5 : decode cX9_saysOf 5 = .ok (.aload_n 0, 1) := by decide +kernel
theorem dX9_saysOf_6 : decode cX9_saysOf 6 = .ok (.iload_n 1, 1) := by decide +kernel
theorem dX9_saysOf_7 : decode cX9_saysOf 7 = .ok (.iconst 4, 1) := by decide +kernel
theorem dX9_saysOf_8 : decode cX9_saysOf 8 = .ok (.invokevirtual 235, 3) := by decide +kernel
theorem dX9_saysOf_11 : decode cX9_saysOf 11 = .ok (.iastore, 1) := by decide +kernel
theorem dX9_saysOf_12 : decode cX9_saysOf 12 = .ok (.aload_n 0, 1) := by decide +kernel
theorem dX9_saysOf_13 : decode cX9_saysOf 13 = .ok (.getfield 44, 3) := by decide +kernel
theorem dX9_saysOf_16 : decode cX9_saysOf 16 = .ok (.iconst 1, 1) := by decide +kernel
theorem dX9_saysOf_17 : decode cX9_saysOf 17 = .ok (.aload_n 0, 1) := by decide +kernel
theorem dX9_saysOf_18 : decode cX9_saysOf 18 = .ok (.iload_n 1, 1) := by decide +kernel
theorem dX9_saysOf_19 : decode cX9_saysOf 19 = .ok (.iconst 1, 1) := by decide +kernel
theorem dX9_saysOf_20 : decode cX9_saysOf 20 = .ok (.invokevirtual 235, 3) := by decide +kernel
theorem dX9_saysOf_23 : decode cX9_saysOf 23 = .ok (.iastore, 1) := by decide +kernel
theorem dX9_saysOf_24 : decode cX9_saysOf 24 = .ok (.aload_n 0, 1) := by decide +kernel
theorem dX9_saysOf_25 : decode cX9_saysOf 25 = .ok (.getfield 44, 3) := by decide +kernel
theorem dX9_saysOf_28 : decode cX9_saysOf 28 = .ok (.iconst 2, 1) := by decide +kernel
theorem dX9_saysOf_29 : decode cX9_saysOf 29 = .ok (.aload_n 0, 1) := by decide +kernel
theorem dX9_saysOf_30 : decode cX9_saysOf 30 = .ok (.iload_n 1, 1) := by decide +kernel
theorem dX9_saysOf_31 : decode cX9_saysOf 31 = .ok (.invokevirtual 312, 3) := by decide +kernel
theorem dX9_saysOf_34 : decode cX9_saysOf 34 = .ok (.iastore, 1) := by decide +kernel
theorem dX9_saysOf_35 : decode cX9_saysOf 35 = .ok (.aload_n 0, 1) := by decide +kernel
theorem dX9_saysOf_36 : decode cX9_saysOf 36 = .ok (.getfield 44, 3) := by decide +kernel
theorem dX9_saysOf_39 : decode cX9_saysOf 39 = .ok (.iconst 3, 1) := by decide +kernel
theorem dX9_saysOf_40 : decode cX9_saysOf 40 = .ok (.aload_n 0, 1) := by decide +kernel
theorem dX9_saysOf_41 : decode cX9_saysOf 41 = .ok (.iload_n 1, 1) := by decide +kernel
theorem dX9_saysOf_42 : decode cX9_saysOf 42 = .ok (.invokevirtual 266, 3) := by decide +kernel
theorem dX9_saysOf_45 : decode cX9_saysOf 45 = .ok (.invokestatic 272, 3) := by decide +kernel
theorem dX9_saysOf_48 : decode cX9_saysOf 48 = .ok (.iastore, 1) := by decide +kernel
theorem dX9_saysOf_49 : decode cX9_saysOf 49 = .ok (.aload_n 0, 1) := by decide +kernel
theorem dX9_saysOf_50 : decode cX9_saysOf 50 = .ok (.getfield 44, 3) := by decide +kernel
theorem dX9_saysOf_53 : decode cX9_saysOf 53 = .ok (.iconst 4, 1) := by decide +kernel
theorem dX9_saysOf_54 : decode cX9_saysOf 54 = .ok (.aload_n 0, 1) := by decide +kernel
theorem dX9_saysOf_55 : decode cX9_saysOf 55 = .ok (.iload_n 1, 1) := by decide +kernel
theorem dX9_saysOf_56 : decode cX9_saysOf 56 = .ok (.iconst 3, 1) := by decide +kernel
theorem dX9_saysOf_57 : decode cX9_saysOf 57 = .ok (.invokevirtual 235, 3) := by decide +kernel
theorem dX9_saysOf_60 : decode cX9_saysOf 60 = .ok (.iastore, 1) := by decide +kernel
theorem dX9_saysOf_61 : decode cX9_saysOf 61 = .ok (.aload_n 0, 1) := by decide +kernel
theorem dX9_saysOf_62 : decode cX9_saysOf 62 = .ok (.getfield 44, 3) := by decide +kernel
theorem dX9_saysOf_65 : decode cX9_saysOf 65 = .ok (.iconst 5, 1) := by decide +kernel
theorem dX9_saysOf_66 : decode cX9_saysOf 66 = .ok (.aload_n 0, 1) := by decide +kernel
theorem dX9_saysOf_67 : decode cX9_saysOf 67 = .ok (.iload_n 1, 1) := by decide +kernel
theorem dX9_saysOf_68 : decode cX9_saysOf 68 = .ok (.iconst 0, 1) := by decide +kernel
theorem dX9_saysOf_69 : decode cX9_saysOf 69 = .ok (.invokevirtual 235, 3) := by decide +kernel
theorem dX9_saysOf_72 : decode cX9_saysOf 72 = .ok (.iastore, 1) := by decide +kernel
theorem dX9_saysOf_73 : decode cX9_saysOf 73 = .ok (.iconst 0, 1) := by decide +kernel
theorem dX9_saysOf_74 : decode cX9_saysOf 74 = .ok (.istore_n 2, 1) := by decide +kernel
theorem dX9_saysOf_75 : decode cX9_saysOf 75 = .ok (.iconst 0, 1) := by decide +kernel
theorem dX9_saysOf_76 : decode cX9_saysOf 76 = .ok (.istore_n 3, 1) := by decide +kernel
theorem dX9_saysOf_77 : decode cX9_saysOf 77 = .ok (.iload_n 3, 1) := by decide +kernel
theorem dX9_saysOf_78 : decode cX9_saysOf 78 = .ok (.aload_n 0, 1) := by decide +kernel
theorem dX9_saysOf_79 : decode cX9_saysOf 79 = .ok (.getfield 232, 3) := by decide +kernel
theorem dX9_saysOf_82 : decode cX9_saysOf 82 = .ok (.if_icmp .ge 53, 3) := by decide +kernel
theorem dX9_saysOf_85 : decode cX9_saysOf 85 = .ok (.aload_n 0, 1) := by decide +kernel
theorem dX9_saysOf_86 : decode cX9_saysOf 86 = .ok (.aload_n 0, 1) := by decide +kernel
theorem dX9_saysOf_87 : decode cX9_saysOf 87 = .ok (.getfield 34, 3) := by decide +kernel
theorem dX9_saysOf_90 : decode cX9_saysOf 90 = .ok (.aload_n 0, 1) := by decide +kernel
theorem dX9_saysOf_91 : decode cX9_saysOf 91 = .ok (.getfield 31, 3) := by decide +kernel
theorem dX9_saysOf_94 : decode cX9_saysOf 94 = .ok (.iconst 3, 1) := by decide +kernel
theorem dX9_saysOf_95 : decode cX9_saysOf 95 = .ok (.iload_n 3, 1) := by decide +kernel
theorem dX9_saysOf_96 : decode cX9_saysOf 96 = .ok (.imul, 1) := by decide +kernel
theorem dX9_saysOf_97 : decode cX9_saysOf 97 = .ok (.iconst 1, 1) := by decide +kernel
theorem dX9_saysOf_98 : decode cX9_saysOf 98 = .ok (.iadd, 1) := by decide +kernel
theorem dX9_saysOf_99 : decode cX9_saysOf 99 = .ok (.iaload, 1) := by decide +kernel
theorem dX9_saysOf_100 : decode cX9_saysOf 100 = .ok (.aload_n 0, 1) := by decide +kernel
theorem dX9_saysOf_101 : decode cX9_saysOf 101 = .ok (.getfield 31, 3) := by decide +kernel
theorem dX9_saysOf_104 : decode cX9_saysOf 104 = .ok (.iconst 3, 1) := by decide +kernel
theorem dX9_saysOf_105 : decode cX9_saysOf 105 = .ok (.iload_n 3, 1) := by decide +kernel
theorem dX9_saysOf_106 : decode cX9_saysOf 106 = .ok (.imul, 1) := by decide +kernel
theorem dX9_saysOf_107 : decode cX9_saysOf 107 = .ok (.iconst 2, 1) := by decide +kernel
theorem dX9_saysOf_108 : decode cX9_saysOf 108 = .ok (.iadd, 1) := by decide +kernel
theorem dX9_saysOf_109 : decode cX9_saysOf 109 = .ok (.iaload, 1) := by decide +kernel
theorem dX9_saysOf_110 : decode cX9_saysOf 110 = .ok (.invokevirtual 315, 3) := by decide +kernel
theorem dX9_saysOf_113 : decode cX9_saysOf 113 = .ok (.ifCond .eq 14, 3) := by decide +kernel
theorem dX9_saysOf_116 : decode cX9_saysOf 116 = .ok (.aload_n 0, 1) := by decide +kernel
theorem dX9_saysOf_117 : decode cX9_saysOf 117 = .ok (.getfield 31, 3) := by decide +kernel
theorem dX9_saysOf_120 : decode cX9_saysOf 120 = .ok (.iconst 3, 1) := by decide +kernel
theorem dX9_saysOf_121 : decode cX9_saysOf 121 = .ok (.iload_n 3, 1) := by decide +kernel
theorem dX9_saysOf_122 : decode cX9_saysOf 122 = .ok (.imul, 1) := by decide +kernel
theorem dX9_saysOf_123 : decode cX9_saysOf 123 = .ok (.iaload, 1) := by decide +kernel
theorem dX9_saysOf_124 : decode cX9_saysOf 124 = .ok (.goto 4, 3) := by decide +kernel
theorem dX9_saysOf_127 : decode cX9_saysOf 127 = .ok (.iload_n 2, 1) := by decide +kernel
theorem dX9_saysOf_128 : decode cX9_saysOf 128 = .ok (.istore_n 2, 1) := by decide +kernel
theorem dX9_saysOf_129 : decode cX9_saysOf 129 = .ok (.iinc 3 1, 3) := by decide +kernel
theorem dX9_saysOf_132 : decode cX9_saysOf 132 = .ok (.goto (-55), 3) := by decide +kernel
theorem dX9_saysOf_135 : decode cX9_saysOf 135 = .ok (.iload_n 2, 1) := by decide +kernel
theorem dX9_saysOf_136 : decode cX9_saysOf 136 = .ok (.ireturn, 1) := by decide +kernel
theorem dX9_says_0 : decode cX9_says 0 = .ok (.aload_n 0, 1) := by decide +kernel
theorem dX9_says_1 : decode cX9_says 1 = .ok (.iload_n 1, 1) := by decide +kernel
theorem dX9_says_2 : decode cX9_says 2 = .ok (.invokevirtual 254, 3) := by decide +kernel
theorem dX9_says_5 : decode cX9_says 5 = .ok (.ifCond .eq 11, 3) := by decide +kernel
theorem dX9_says_8 : decode cX9_says 8 = .ok (.aload_n 0, 1) := by decide +kernel
theorem dX9_says_9 : decode cX9_says 9 = .ok (.iload_n 1, 1) := by decide +kernel
theorem dX9_says_10 : decode cX9_says 10 = .ok (.invokevirtual 319, 3) := by decide +kernel
theorem dX9_says_13 : decode cX9_says 13 = .ok (.goto 4, 3) := by decide +kernel
theorem dX9_says_16 : decode cX9_says 16 = .ok (.iconst (-1), 1) := by decide +kernel
theorem dX9_says_17 : decode cX9_says 17 = .ok (.ireturn, 1) := by decide +kernel
theorem dX9_found_0 : decode cX9_found 0 = .ok (.aload_n 0, 1) := by decide +kernel
theorem dX9_found_1 : decode cX9_found 1 = .ok (.iload_n 1, 1) := by decide +kernel
theorem dX9_found_2 : decode cX9_found 2 = .ok (.invokevirtual 254, 3) := by decide +kernel
theorem dX9_found_5 : decode cX9_found 5 = .ok (.ifCond .eq 12, 3) := by decide +kernel
theorem dX9_found_8 : decode cX9_found 8 = .ok (.iload_n 2, 1) := by decide +kernel
theorem dX9_found_9 : decode cX9_found 9 = .ok (.iconst (-1), 1) := by decide +kernel
theorem dX9_found_10 : decode cX9_found 10 = .ok (.iconst 1, 1) := by decide +kernel
theorem dX9_found_11 : decode cX9_found 11 = .ok (.invokestatic 109, 3) := by decide +kernel
theorem dX9_found_14 : decode cX9_found 14 = .ok (.ifCond .ne 5, 3) := by decide +kernel
theorem dX9_found_17 : decode cX9_found 17 = .ok (.iconst (-1), 1) := by decide +kernel
theorem dX9_found_18 : decode cX9_found 18 = .ok (.ireturn, 1) := by decide +kernel
theorem dX9_found_19 : decode cX9_found 19 = .ok (.aload_n 0, 1) := by decide +kernel
theorem dX9_found_20 : decode cX9_found 20 = .ok (.iload_n 1, 1) := by decide +kernel
theorem dX9_found_21 : decode cX9_found 21 = .ok (.bipush 9, 2) := by decide +kernel
theorem dX9_found_23 : decode cX9_found 23 = .ok (.invokevirtual 235, 3) := by decide +kernel
theorem dX9_found_26 : decode cX9_found 26 = .ok (.istore 4, 2) := by decide +kernel
theorem dX9_found_28 : decode cX9_found 28 = .ok (.aload_n 0, 1) := by decide +kernel
theorem dX9_found_29 : decode cX9_found 29 = .ok (.getfield 22, 3) := by decide +kernel
theorem dX9_found_32 : decode cX9_found 32 = .ok (.bipush 11, 2) := by decide +kernel
theorem dX9_found_34 : decode cX9_found 34 = .ok (.iload_n 1, 1) := by decide +kernel
theorem dX9_found_35 : decode cX9_found 35 = .ok (.imul, 1) := by decide +kernel
theorem dX9_found_36 : decode cX9_found 36 = .ok (.bipush 9, 2) := by decide +kernel
theorem dX9_found_38 : decode cX9_found 38 = .ok (.iadd, 1) := by decide +kernel
theorem dX9_found_39 : decode cX9_found 39 = .ok (.iload_n 2, 1) := by decide +kernel
theorem dX9_found_40 : decode cX9_found 40 = .ok (.iconst 1, 1) := by decide +kernel
theorem dX9_found_41 : decode cX9_found 41 = .ok (.iadd, 1) := by decide +kernel
theorem dX9_found_42 : decode cX9_found 42 = .ok (.iastore, 1) := by decide +kernel
theorem dX9_found_43 : decode cX9_found 43 = .ok (.aload_n 0, 1) := by decide +kernel
theorem dX9_found_44 : decode cX9_found 44 = .ok (.getfield 22, 3) := by decide +kernel
theorem dX9_found_47 : decode cX9_found 47 = .ok (.bipush 11, 2) := by decide +kernel
theorem dX9_found_49 : decode cX9_found 49 = .ok (.iload_n 1, 1) := by decide +kernel
theorem dX9_found_50 : decode cX9_found 50 = .ok (.imul, 1) := by decide +kernel
theorem dX9_found_51 : decode cX9_found 51 = .ok (.bipush 10, 2) := by decide +kernel
theorem dX9_found_53 : decode cX9_found 53 = .ok (.iadd, 1) := by decide +kernel
theorem dX9_found_54 : decode cX9_found 54 = .ok (.iload_n 3, 1) := by decide +kernel
theorem dX9_found_55 : decode cX9_found 55 = .ok (.ifCond .eq 7, 3) := by decide +kernel
theorem dX9_found_58 : decode cX9_found 58 = .ok (.iconst 1, 1) := by decide +kernel
theorem dX9_found_59 : decode cX9_found 59 = .ok (.goto 4, 3) := by decide +kernel
theorem dX9_found_62 : decode cX9_found 62 = .ok (.iconst 0, 1) := by decide +kernel
theorem dX9_found_63 : decode cX9_found 63 = .ok (.iastore, 1) := by decide +kernel
theorem dX9_found_64 : decode cX9_found 64 = .ok (.iload 4, 2) := by decide +kernel
theorem dX9_found_66 : decode cX9_found 66 = .ok (.ifCond .ne 8, 3) := by decide +kernel
theorem dX9_found_69 : decode cX9_found 69 = .ok (.bipush (-9), 2) := by decide +kernel
theorem dX9_found_71 : decode cX9_found 71 = .ok (.goto 7, 3) := by decide +kernel
theorem dX9_found_74 : decode cX9_found 74 = .ok (.iload 4, 2) := by decide +kernel
theorem dX9_found_76 : decode cX9_found 76 = .ok (.iconst 1, 1) := by decide +kernel
theorem dX9_found_77 : decode cX9_found 77 = .ok (.isub, 1) := by decide +kernel
theorem dX9_found_78 : decode cX9_found 78 = .ok (.ireturn, 1) := by decide +kernel
theorem dX9_rate_0 : decode cX9_rate 0 = .ok (.iload_n 1, 1) := by decide +kernel
theorem dX9_rate_1 : decode cX9_rate 1 = .ok (.invokestatic 288, 3) := by decide +kernel
theorem dX9_rate_4 : decode cX9_rate 4 = .ok (.ifCond .ne 5, 3) := by decide +kernel
theorem dX9_rate_7 : decode cX9_rate 7 = .ok (.iconst (-1), 1) := by decide +kernel
theorem dX9_rate_8 : decode cX9_rate 8 = .ok (.ireturn, 1) := by decide +kernel
theorem dX9_rate_9 : decode cX9_rate 9 = .ok (.iconst 0, 1) := by decide +kernel
theorem dX9_rate_10 : decode cX9_rate 10 = .ok (.istore_n 2, 1) := by decide +kernel
theorem dX9_rate_11 : decode cX9_rate 11 = .ok (.iconst 0, 1) := by decide +kernel
theorem dX9_rate_12 : decode cX9_rate 12 = .ok (.istore_n 3, 1) := by decide +kernel
theorem dX9_rate_13 : decode cX9_rate 13 = .ok (.iconst 0, 1) := by decide +kernel
theorem dX9_rate_14 : decode cX9_rate 14 = .ok (.istore 4, 2) := by decide +kernel
theorem dX9_rate_16 : decode cX9_rate 16 = .ok (.iload 4, 2) := by decide +kernel
theorem dX9_rate_18 : decode cX9_rate 18 = .ok (.aload_n 0, 1) := by decide +kernel
theorem dX9_rate_19 : decode cX9_rate 19 = .ok (.getfield 113, 3) := by decide +kernel
theorem dX9_rate_22 : decode cX9_rate 22 = .ok (.if_icmp .ge 77, 3) := by decide +kernel
theorem dX9_rate_25 : decode cX9_rate 25 = .ok (.aload_n 0, 1) := by decide +kernel
theorem dX9_rate_26 : decode cX9_rate 26 = .ok (.iload 4, 2) := by decide +kernel
theorem dX9_rate_28 : decode cX9_rate 28 = .ok (.bipush 9, 2) := by decide +kernel
theorem dX9_rate_30 : decode cX9_rate 30 = .ok (.invokevirtual 235, 3) := by decide +kernel
theorem dX9_rate_33 : decode cX9_rate 33 = .ok (.ifCond .le 19, 3) := by decide +kernel
theorem dX9_rate_36 : decode cX9_rate 36 = .ok (.aload_n 0, 1) := by decide +kernel
theorem dX9_rate_37 : decode cX9_rate 37 = .ok (.iload 4, 2) := by decide +kernel
theorem dX9_rate_39 : decode cX9_rate 39 = .ok (.bipush 10, 2) := by decide +kernel
theorem dX9_rate_41 : decode cX9_rate 41 = .ok (.invokevirtual 235, 3) := by decide +kernel
theorem dX9_rate_44 : decode cX9_rate 44 = .ok (.iconst 1, 1) := by decide +kernel
theorem dX9_rate_45 : decode cX9_rate 45 = .ok (.if_icmp .ne 7, 3) := by decide +kernel
theorem dX9_rate_48 : decode cX9_rate 48 = .ok (.iconst 1, 1) := by decide +kernel
theorem dX9_rate_49 : decode cX9_rate 49 = .ok (.goto 4, 3) := by decide +kernel
theorem dX9_rate_52 : decode cX9_rate 52 = .ok (.iconst 0, 1) := by decide +kernel
theorem dX9_rate_53 : decode cX9_rate 53 = .ok (.istore 5, 2) := by decide +kernel
theorem dX9_rate_55 : decode cX9_rate 55 = .ok (.iload_n 2, 1) := by decide +kernel
theorem dX9_rate_56 : decode cX9_rate 56 = .ok (.iload 5, 2) := by decide +kernel
theorem dX9_rate_58 : decode cX9_rate 58 = .ok (.ifCond .eq 7, 3) := by decide +kernel
theorem dX9_rate_61 : decode cX9_rate 61 = .ok (.iconst 1, 1) := by decide +kernel
theorem dX9_rate_62 : decode cX9_rate 62 = .ok (.goto 4, 3) := by decide +kernel
theorem dX9_rate_65 : decode cX9_rate 65 = .ok (.iconst 0, 1) := by decide +kernel
theorem dX9_rate_66 : decode cX9_rate 66 = .ok (.iadd, 1) := by decide +kernel
theorem dX9_rate_67 : decode cX9_rate 67 = .ok (.istore_n 2, 1) := by decide +kernel
theorem dX9_rate_68 : decode cX9_rate 68 = .ok (.iload_n 3, 1) := by decide +kernel
theorem dX9_rate_69 : decode cX9_rate 69 = .ok (.iload 5, 2) := by decide +kernel
theorem dX9_rate_71 : decode cX9_rate 71 = .ok (.ifCond .eq 19, 3) := by decide +kernel
theorem dX9_rate_74 : decode cX9_rate 74 = .ok (.aload_n 0, 1) := by decide +kernel
theorem dX9_rate_75 : decode cX9_rate 75 = .ok (.iload 4, 2) := by decide +kernel
theorem dX9_rate_77 : decode cX9_rate 77 = .ok (.bipush 9, 2) := by decide +kernel
theorem dX9_rate_79 : decode cX9_rate 79 = .ok (.invokevirtual 235, 3) := by decide +kernel
theorem dX9_rate_82 : decode cX9_rate 82 = .ok (.iconst 2, 1) := by decide +kernel
theorem dX9_rate_83 : decode cX9_rate 83 = .ok (.if_icmp .ne 7, 3) := by decide +kernel
theorem dX9_rate_86 : decode cX9_rate 86 = .ok (.iconst 1, 1) := by decide +kernel
theorem dX9_rate_87 : decode cX9_rate 87 = .ok (.goto 4, 3) := by decide +kernel
theorem dX9_rate_90 : decode cX9_rate 90 = .ok (.iconst 0, 1) := by decide +kernel
theorem dX9_rate_91 : decode cX9_rate 91 = .ok (.iadd, 1) := by decide +kernel
theorem dX9_rate_92 : decode cX9_rate 92 = .ok (.istore_n 3, 1) := by decide +kernel
theorem dX9_rate_93 : decode cX9_rate 93 = .ok (.iinc 4 1, 3) := by decide +kernel
theorem dX9_rate_96 : decode cX9_rate 96 = .ok (.goto (-80), 3) := by decide +kernel
theorem dX9_rate_99 : decode cX9_rate 99 = .ok (.iload_n 2, 1) := by decide +kernel
theorem dX9_rate_100 : decode cX9_rate 100 = .ok (.ifCond .ne 6, 3) := by decide +kernel
theorem dX9_rate_103 : decode cX9_rate 103 = .ok (.bipush (-3), 2) := by decide +kernel
theorem dX9_rate_105 : decode cX9_rate 105 = .ok (.ireturn, 1) := by decide +kernel
theorem dX9_rate_106 : decode cX9_rate 106 = .ok (.aload_n 0, 1) := by decide +kernel
theorem dX9_rate_107 : decode cX9_rate 107 = .ok (.iload_n 3, 1) := by decide +kernel
theorem dX9_rate_108 : decode cX9_rate 108 = .ok (.i2l, 1) := by decide +kernel
theorem dX9_rate_109 : decode cX9_rate 109 = .ok (.iload_n 2, 1) := by decide +kernel
theorem dX9_rate_110 : decode cX9_rate 110 = .ok (.i2l, 1) := by decide +kernel
theorem dX9_rate_111 : decode cX9_rate 111 = .ok (.invokevirtual 305, 3) := by decide +kernel
theorem dX9_rate_114 : decode cX9_rate 114 = .ok (.iload_n 1, 1) := by decide +kernel
theorem dX9_rate_115 : decode cX9_rate 115 = .ok (.ifCond .ne 10, 3) := by decide +kernel
theorem dX9_rate_118 : decode cX9_rate 118 = .ok (.aload_n 0, 1) := by decide +kernel
theorem dX9_rate_119 : decode cX9_rate 119 = .ok (.getfield 297, 3) := by decide +kernel
theorem dX9_rate_122 : decode cX9_rate 122 = .ok (.goto 7, 3) := by decide +kernel
theorem dX9_rate_125 : decode cX9_rate 125 = .ok (.aload_n 0, 1) := by decide +kernel
theorem dX9_rate_126 : decode cX9_rate 126 = .ok (.getfield 300, 3) := by decide +kernel
theorem dX9_rate_129 : decode cX9_rate 129 = .ok (.l2i, 1) := by decide +kernel
theorem dX9_rate_130 : decode cX9_rate 130 = .ok (.ireturn, 1) := by decide +kernel
theorem dX9_right_0 : decode cX9_right 0 = .ok (.iload_n 1, 1) := by decide +kernel
theorem dX9_right_1 : decode cX9_right 1 = .ok (.iconst 0, 1) := by decide +kernel
theorem dX9_right_2 : decode cX9_right 2 = .ok (.iconst 3, 1) := by decide +kernel
theorem dX9_right_3 : decode cX9_right 3 = .ok (.invokestatic 109, 3) := by decide +kernel
theorem dX9_right_6 : decode cX9_right 6 = .ok (.ifCond .ne 5, 3) := by decide +kernel
theorem dX9_right_9 : decode cX9_right 9 = .ok (.iconst (-1), 1) := by decide +kernel
theorem dX9_right_10 : decode cX9_right 10 = .ok (.ireturn, 1) := by decide +kernel
theorem dX9_right_11 : decode cX9_right 11 = .ok (.iconst 0, 1) := by decide +kernel
theorem dX9_right_12 : decode cX9_right 12 = .ok (.istore_n 2, 1) := by decide +kernel
theorem dX9_right_13 : decode cX9_right 13 = .ok (.iconst 0, 1) := by decide +kernel
theorem dX9_right_14 : decode cX9_right 14 = .ok (.istore_n 3, 1) := by decide +kernel
theorem dX9_right_15 : decode cX9_right 15 = .ok (.iload_n 3, 1) := by decide +kernel
theorem dX9_right_16 : decode cX9_right 16 = .ok (.aload_n 0, 1) := by decide +kernel
theorem dX9_right_17 : decode cX9_right 17 = .ok (.getfield 113, 3) := by decide +kernel
theorem dX9_right_20 : decode cX9_right 20 = .ok (.if_icmp .ge 58, 3) := by decide +kernel
theorem dX9_right_23 : decode cX9_right 23 = .ok (.aload_n 0, 1) := by decide +kernel
theorem dX9_right_24 : decode cX9_right 24 = .ok (.iload_n 3, 1) := by decide +kernel
theorem dX9_right_25 : decode cX9_right 25 = .ok (.bipush 9, 2) := by decide +kernel
theorem dX9_right_27 : decode cX9_right 27 = .ok (.invokevirtual 235, 3) := by decide +kernel
theorem dX9_right_30 : decode cX9_right 30 = .ok (.ifCond .ne 7, 3) := by decide +kernel
theorem dX9_right_33 : decode cX9_right 33 = .ok (.iconst (-1), 1) := by decide +kernel
theorem dX9_right_34 : decode cX9_right 34 = .ok (.goto 22, 3) := by decide +kernel
theorem dX9_right_37 : decode cX9_right 37 = .ok (.iconst 2, 1) := by decide +kernel
theorem dX9_right_38 : decode cX9_right 38 = .ok (.iconst 1, 1) := by decide +kernel
theorem dX9_right_39 : decode cX9_right 39 = .ok (.aload_n 0, 1) := by decide +kernel
theorem dX9_right_40 : decode cX9_right 40 = .ok (.iload_n 3, 1) := by decide +kernel
theorem dX9_right_41 : decode cX9_right 41 = .ok (.invokevirtual 319, 3) := by decide +kernel
theorem dX9_right_44 : decode cX9_right 44 = .ok (.isub, 1) := by decide +kernel
theorem dX9_right_45 : decode cX9_right 45 = .ok (.imul, 1) := by decide +kernel
theorem dX9_right_46 : decode cX9_right 46 = .ok (.iconst 2, 1) := by decide +kernel
theorem dX9_right_47 : decode cX9_right 47 = .ok (.iadd, 1) := by decide +kernel
theorem dX9_right_48 : decode cX9_right 48 = .ok (.aload_n 0, 1) := by decide +kernel
theorem dX9_right_49 : decode cX9_right 49 = .ok (.iload_n 3, 1) := by decide +kernel
theorem dX9_right_50 : decode cX9_right 50 = .ok (.bipush 9, 2) := by decide +kernel
theorem dX9_right_52 : decode cX9_right 52 = .ok (.invokevirtual 235, 3) := by decide +kernel
theorem dX9_right_55 : decode cX9_right 55 = .ok (.isub, 1) := by decide +kernel
theorem dX9_right_56 : decode cX9_right 56 = .ok (.istore 4, 2) := by decide +kernel
theorem dX9_right_58 : decode cX9_right 58 = .ok (.iload_n 2, 1) := by decide +kernel
theorem dX9_right_59 : decode cX9_right 59 = .ok (.iload 4, 2) := by decide +kernel
theorem dX9_right_61 : decode cX9_right 61 = .ok (.iload_n 1, 1) := by decide +kernel
theorem dX9_right_62 : decode cX9_right 62 = .ok (.if_icmp .ne 7, 3) := by decide +kernel
theorem dX9_right_65 : decode cX9_right 65 = .ok (.iconst 1, 1) := by decide +kernel
theorem dX9_right_66 : decode cX9_right 66 = .ok (.goto 4, 3) := by decide +kernel
theorem dX9_right_69 : decode cX9_right 69 = .ok (.iconst 0, 1) := by decide +kernel
theorem dX9_right_70 : decode cX9_right 70 = .ok (.iadd, 1) := by decide +kernel
theorem dX9_right_71 : decode cX9_right 71 = .ok (.istore_n 2, 1) := by decide +kernel
theorem dX9_right_72 : decode cX9_right 72 = .ok (.iinc 3 1, 3) := by decide +kernel
theorem dX9_right_75 : decode cX9_right 75 = .ok (.goto (-60), 3) := by decide +kernel
theorem dX9_right_78 : decode cX9_right 78 = .ok (.iload_n 2, 1) := by decide +kernel
theorem dX9_right_79 : decode cX9_right 79 = .ok (.ireturn, 1) := by decide +kernel
theorem dX9_seed_0 : decode cX9_seed 0 = .ok (.aload_n 0, 1) := by decide +kernel
theorem dX9_seed_1 : decode cX9_seed 1 = .ok (.getfield 37, 3) := by decide +kernel
theorem dX9_seed_4 : decode cX9_seed 4 = .ok (.istore_n 2, 1) := by decide +kernel
theorem dX9_seed_5 : decode cX9_seed 5 = .ok (.aload_n 0, 1) := by decide +kernel
theorem dX9_seed_6 : decode cX9_seed 6 = .ok (.iload_n 1, 1) := by decide +kernel
theorem dX9_seed_7 : decode cX9_seed 7 = .ok (.putfield 37, 3) := by decide +kernel
theorem dX9_seed_10 : decode cX9_seed 10 = .ok (.iload_n 2, 1) := by decide +kernel
theorem dX9_seed_11 : decode cX9_seed 11 = .ok (.ireturn, 1) := by decide +kernel
theorem dX9_foundMany_0 : decode cX9_foundMany 0 = .ok (.iconst 0, 1) := by decide +kernel
theorem dX9_foundMany_1 : decode cX9_foundMany 1 = .ok (.istore_n 1, 1) := by decide +kernel
theorem dX9_foundMany_2 : decode cX9_foundMany 2 = .ok (.iconst 0, 1) := by decide +kernel
theorem dX9_foundMany_3 : decode cX9_foundMany 3 = .ok (.istore_n 2, 1) := by decide +kernel
theorem dX9_foundMany_4 : decode cX9_foundMany 4 = .ok (.iload_n 2, 1) := by decide +kernel
theorem dX9_foundMany_5 : decode cX9_foundMany 5 = .ok (.aload_n 0, 1) := by decide +kernel
theorem dX9_foundMany_6 : decode cX9_foundMany 6 = .ok (.getfield 113, 3) := by decide +kernel
theorem dX9_foundMany_9 : decode cX9_foundMany 9 = .ok (.if_icmp .ge 27, 3) := by decide +kernel
theorem dX9_foundMany_12 : decode cX9_foundMany 12 = .ok (.iload_n 1, 1) := by decide +kernel
theorem dX9_foundMany_13 : decode cX9_foundMany 13 = .ok (.aload_n 0, 1) := by decide +kernel
theorem dX9_foundMany_14 : decode cX9_foundMany 14 = .ok (.iload_n 2, 1) := by decide +kernel
theorem dX9_foundMany_15 : decode cX9_foundMany 15 = .ok (.bipush 9, 2) := by decide +kernel
theorem dX9_foundMany_17 : decode cX9_foundMany 17 = .ok (.invokevirtual 235, 3) := by decide +kernel
theorem dX9_foundMany_20 : decode cX9_foundMany 20 = .ok (.ifCond .le 7, 3) := by decide +kernel
theorem dX9_foundMany_23 : decode cX9_foundMany 23 = .ok (.iconst 1, 1) := by decide +kernel
theorem dX9_foundMany_24 : decode cX9_foundMany 24 = .ok (.goto 4, 3) := by decide +kernel
theorem dX9_foundMany_27 : decode cX9_foundMany 27 = .ok (.iconst 0, 1) := by decide +kernel
theorem dX9_foundMany_28 : decode cX9_foundMany 28 = .ok (.iadd, 1) := by decide +kernel
theorem dX9_foundMany_29 : decode cX9_foundMany 29 = .ok (.istore_n 1, 1) := by decide +kernel
theorem dX9_foundMany_30 : decode cX9_foundMany 30 = .ok (.iinc 2 1, 3) := by decide +kernel
theorem dX9_foundMany_33 : decode cX9_foundMany 33 = .ok (.goto (-29), 3) := by decide +kernel
theorem dX9_foundMany_36 : decode cX9_foundMany 36 = .ok (.iload_n 1, 1) := by decide +kernel
theorem dX9_foundMany_37 : decode cX9_foundMany 37 = .ok (.ireturn, 1) := by decide +kernel
theorem dX9_draw_0 : decode cX9_draw 0 = .ok (.aload_n 0, 1) := by decide +kernel
theorem dX9_draw_1 : decode cX9_draw 1 = .ok (.getfield 113, 3) := by decide +kernel
theorem dX9_draw_4 : decode cX9_draw 4 = .ok (.aload_n 0, 1) := by decide +kernel
theorem dX9_draw_5 : decode cX9_draw 5 = .ok (.invokevirtual 322, 3) := by decide +kernel
theorem dX9_draw_8 : decode cX9_draw 8 = .ok (.isub, 1) := by decide +kernel
theorem dX9_draw_9 : decode cX9_draw 9 = .ok (.istore_n 1, 1) := by decide +kernel
theorem dX9_draw_10 : decode cX9_draw 10 = .ok (.iload_n 1, 1) := by decide +kernel
theorem dX9_draw_11 : decode cX9_draw 11 = .ok (.ifCond .ne 6, 3) := by decide +kernel
theorem dX9_draw_14 : decode cX9_draw 14 = .ok (.bipush (-3), 2) := by decide +kernel
theorem dX9_draw_16 : decode cX9_draw 16 = .ok (.ireturn, 1) := by decide +kernel
theorem dX9_draw_17 : decode cX9_draw 17 = .ok (.aload_n 0, 1) := by decide +kernel
theorem dX9_draw_18 : decode cX9_draw 18 = .ok (.aload_n 0, 1) := by decide +kernel
theorem dX9_draw_19 : decode cX9_draw 19 = .ok (.getfield 37, 3) := by decide +kernel
theorem dX9_draw_22 : decode cX9_draw 22 = .ok (.ldc_w 325, 3) := by decide +kernel
theorem dX9_draw_25 : decode cX9_draw 25 = .ok (.imul, 1) := by decide +kernel
theorem dX9_draw_26 : decode cX9_draw 26 = .ok (.sipush 12345, 3) := by decide +kernel
theorem dX9_draw_29 : decode cX9_draw 29 = .ok (.iadd, 1) := by decide +kernel
theorem dX9_draw_30 : decode cX9_draw 30 = .ok (.putfield 37, 3) := by decide +kernel
theorem dX9_draw_33 : decode cX9_draw 33 = .ok (.aload_n 0, 1) := by decide +kernel
theorem dX9_draw_34 : decode cX9_draw 34 = .ok (.getfield 37, 3) := by decide +kernel
theorem dX9_draw_37 : decode cX9_draw 37 = .ok (.bipush 16, 2) := by decide +kernel
theorem dX9_draw_39 : decode cX9_draw 39 = .ok (.iushr, 1) := by decide +kernel
theorem dX9_draw_40 : decode cX9_draw 40 = .ok (.iload_n 1, 1) := by decide +kernel
theorem dX9_draw_41 : decode cX9_draw 41 = .ok (.irem, 1) := by decide +kernel
theorem dX9_draw_42 : decode cX9_draw 42 = .ok (.istore_n 2, 1) := by decide +kernel
theorem dX9_draw_43 : decode cX9_draw 43 = .ok (.iconst 0, 1) := by decide +kernel
theorem dX9_draw_44 : decode cX9_draw 44 = .ok (.istore_n 3, 1) := by decide +kernel
theorem dX9_draw_45 : decode cX9_draw 45 = .ok (.aload_n 0, 1) := by decide +kernel
theorem dX9_draw_46 : decode cX9_draw 46 = .ok (.iload_n 3, 1) := by decide +kernel
theorem dX9_draw_47 : decode cX9_draw 47 = .ok (.bipush 9, 2) := by decide +kernel
theorem dX9_draw_49 : decode cX9_draw 49 = .ok (.invokevirtual 235, 3) := by decide +kernel
theorem dX9_draw_52 : decode cX9_draw 52 = .ok (.ifCond .gt 7, 3) := by decide +kernel
theorem dX9_draw_55 : decode cX9_draw 55 = .ok (.iload_n 2, 1) := by decide +kernel
theorem dX9_draw_56 : decode cX9_draw 56 = .ok (.ifCond .le 27, 3) := by decide +kernel
theorem dX9_draw_59 : decode cX9_draw 59 = .ok (.iload_n 2, 1) := by decide +kernel
theorem dX9_draw_60 : decode cX9_draw 60 = .ok (.aload_n 0, 1) := by decide +kernel
theorem dX9_draw_61 : decode cX9_draw 61 = .ok (.iload_n 3, 1) := by decide +kernel
theorem dX9_draw_62 : decode cX9_draw 62 = .ok (.bipush 9, 2) := by decide +kernel
theorem dX9_draw_64 : decode cX9_draw 64 = .ok (.invokevirtual 235, 3) := by decide +kernel
theorem dX9_draw_67 : decode cX9_draw 67 = .ok (.ifCond .le 7, 3) := by decide +kernel
theorem dX9_draw_70 : decode cX9_draw 70 = .ok (.iconst 0, 1) := by decide +kernel
theorem dX9_draw_71 : decode cX9_draw 71 = .ok (.goto 4, 3) := by decide +kernel
theorem dX9_draw_74 : decode cX9_draw 74 = .ok (.iconst 1, 1) := by decide +kernel
theorem dX9_draw_75 : decode cX9_draw 75 = .ok (.isub, 1) := by decide +kernel
theorem dX9_draw_76 : decode cX9_draw 76 = .ok (.istore_n 2, 1) := by decide +kernel
theorem dX9_draw_77 : decode cX9_draw 77 = .ok (.iinc 3 1, 3) := by decide +kernel
theorem dX9_draw_80 : decode cX9_draw 80 = .ok (.goto (-35), 3) := by decide +kernel
theorem dX9_draw_83 : decode cX9_draw 83 = .ok (.iload_n 3, 1) := by decide +kernel
theorem dX9_draw_84 : decode cX9_draw 84 = .ok (.ireturn, 1) := by decide +kernel
theorem dX9_findRows_0 : decode cX9_findRows 0 = .ok (.aload_n 0, 1) := by decide +kernel
theorem dX9_findRows_1 : decode cX9_findRows 1 = .ok (.invokevirtual 291, 3) := by decide +kernel
theorem dX9_findRows_4 : decode cX9_findRows 4 = .ok (.istore_n 1, 1) := by decide +kernel
theorem dX9_findRows_5 : decode cX9_findRows 5 = .ok (.aload_n 0, 1) := by decide +kernel
theorem dX9_findRows_6 : decode cX9_findRows 6 = .ok (.iconst 0, 1) := by decide +kernel
theorem dX9_findRows_7 : decode cX9_findRows 7 = .ok (.putfield 326, 3) := by decide +kernel
theorem dX9_findRows_10 : decode cX9_findRows 10 = .ok (.iconst 0, 1) := by decide +kernel
theorem dX9_findRows_11 : decode cX9_findRows 11 = .ok (.istore_n 2, 1) := by decide +kernel
theorem dX9_findRows_12 : decode cX9_findRows 12 = .ok (.iload_n 2, 1) := by decide +kernel
theorem dX9_findRows_13 : decode cX9_findRows 13 = .ok (.aload_n 0, 1) := by decide +kernel
theorem dX9_findRows_14 : decode cX9_findRows 14 = .ok (.getfield 113, 3) := by decide +kernel
theorem dX9_findRows_17 : decode cX9_findRows 17 = .ok (.if_icmp .ge 123, 3) := by decide +kernel
theorem dX9_findRows_20 : decode cX9_findRows 20 = .ok (.iload_n 1, 1) := by decide +kernel
theorem dX9_findRows_21 : decode cX9_findRows 21 = .ok (.ifCond .lt 119, 3) := by decide +kernel
theorem dX9_findRows_24 : decode cX9_findRows 24 = .ok (.iload_n 2, 1) := by decide +kernel
theorem dX9_findRows_25 : decode cX9_findRows 25 = .ok (.iconst 1, 1) := by decide +kernel
theorem dX9_findRows_26 : decode cX9_findRows 26 = .ok (.iadd, 1) := by decide +kernel
theorem dX9_findRows_27 : decode cX9_findRows 27 = .ok (.istore_n 3, 1) := by decide +kernel
theorem dX9_findRows_28 : decode cX9_findRows 28 = .ok (.iload_n 3, 1) := by decide +kernel
theorem dX9_findRows_29 : decode cX9_findRows 29 = .ok (.aload_n 0, 1) := by decide +kernel
theorem dX9_findRows_30 : decode cX9_findRows 30 = .ok (.getfield 113, 3) := by decide +kernel
theorem dX9_findRows_33 : decode cX9_findRows 33 = .ok (.if_icmp .ge 101, 3) := by decide +kernel
theorem dX9_findRows_36 : decode cX9_findRows 36 = .ok (.iload_n 1, 1) := by decide +kernel
theorem dX9_findRows_37 : decode cX9_findRows 37 = .ok (.iload_n 2, 1) := by decide +kernel
theorem dX9_findRows_38 : decode cX9_findRows 38 = .ok (.ishr, 1) := by decide +kernel
theorem dX9_findRows_39 : decode cX9_findRows 39 = .ok (.iconst 1, 1) := by decide +kernel
theorem dX9_findRows_40 : decode cX9_findRows 40 = .ok (.iand, 1) := by decide +kernel
theorem dX9_findRows_41 : decode cX9_findRows 41 = .ok (.iconst 1, 1) := by decide +kernel
theorem dX9_findRows_42 : decode cX9_findRows 42 = .ok (.if_icmp .ne 86, 3) := by decide +kernel
theorem dX9_findRows_45 : decode cX9_findRows 45 = .ok (.iload_n 1, 1) := by decide +kernel
theorem dX9_findRows_46 : decode cX9_findRows 46 = .ok (.iload_n 3, 1) := by decide +kernel
theorem dX9_findRows_47 : decode cX9_findRows 47 = .ok (.ishr, 1) := by decide +kernel
theorem dX9_findRows_48 : decode cX9_findRows 48 = .ok (.iconst 1, 1) := by decide +kernel
theorem dX9_findRows_49 : decode cX9_findRows 49 = .ok (.iand, 1) := by decide +kernel
theorem dX9_findRows_50 : decode cX9_findRows 50 = .ok (.iconst 1, 1) := by decide +kernel
theorem dX9_findRows_51 : decode cX9_findRows 51 = .ok (.if_icmp .ne 77, 3) := by decide +kernel
theorem dX9_findRows_54 : decode cX9_findRows 54 = .ok (.aload_n 0, 1) := by decide +kernel
theorem dX9_findRows_55 : decode cX9_findRows 55 = .ok (.getfield 60, 3) := by decide +kernel
theorem dX9_findRows_58 : decode cX9_findRows 58 = .ok (.bipush 9, 2) := by decide +kernel
theorem dX9_findRows_60 : decode cX9_findRows 60 = .ok (.iload_n 2, 1) := by decide +kernel
theorem dX9_findRows_61 : decode cX9_findRows 61 = .ok (.imul, 1) := by decide +kernel
theorem dX9_findRows_62 : decode cX9_findRows 62 = .ok (.iload_n 3, 1) := by decide +kernel
theorem dX9_findRows_63 : decode cX9_findRows 63 = .ok (.iadd, 1) := by decide +kernel
theorem dX9_findRows_64 : decode cX9_findRows 64 = .ok (.iaload, 1) := by decide +kernel
theorem dX9_findRows_65 : decode cX9_findRows 65 = .ok (.ifCond .le 63, 3) := by decide +kernel
theorem dX9_findRows_68 : decode cX9_findRows 68 = .ok (.aload_n 0, 1) := by decide +kernel
theorem dX9_findRows_69 : decode cX9_findRows 69 = .ok (.getfield 76, 3) := by decide +kernel
theorem dX9_findRows_72 : decode cX9_findRows 72 = .ok (.iconst 3, 1) := by decide +kernel
theorem dX9_findRows_73 : decode cX9_findRows 73 = .ok (.aload_n 0, 1) := by decide +kernel
theorem dX9_findRows_74 : decode cX9_findRows 74 = .ok (.getfield 326, 3) := by decide +kernel
theorem dX9_findRows_77 : decode cX9_findRows 77 = .ok (.imul, 1) := by decide +kernel
theorem dX9_findRows_78 : decode cX9_findRows 78 = .ok (.iload_n 2, 1) := by decide +kernel
theorem dX9_findRows_79 : decode cX9_findRows 79 = .ok (.iastore, 1) := by decide +kernel
theorem dX9_findRows_80 : decode cX9_findRows 80 = .ok (.aload_n 0, 1) := by decide +kernel
theorem dX9_findRows_81 : decode cX9_findRows 81 = .ok (.getfield 76, 3) := by decide +kernel
theorem dX9_findRows_84 : decode cX9_findRows 84 = .ok (.iconst 3, 1) := by decide +kernel
theorem dX9_findRows_85 : decode cX9_findRows 85 = .ok (.aload_n 0, 1) := by decide +kernel
theorem dX9_findRows_86 : decode cX9_findRows 86 = .ok (.getfield 326, 3) := by decide +kernel
theorem dX9_findRows_89 : decode cX9_findRows 89 = .ok (.imul, 1) := by decide +kernel
theorem dX9_findRows_90 : decode cX9_findRows 90 = .ok (.iconst 1, 1) := by decide +kernel
theorem dX9_findRows_91 : decode cX9_findRows 91 = .ok (.iadd, 1) := by decide +kernel
theorem dX9_findRows_92 : decode cX9_findRows 92 = .ok (.iload_n 3, 1) := by decide +kernel
theorem dX9_findRows_93 : decode cX9_findRows 93 = .ok (.iastore, 1) := by decide +kernel
theorem dX9_findRows_94 : decode cX9_findRows 94 = .ok (.aload_n 0, 1) := by decide +kernel
theorem dX9_findRows_95 : decode cX9_findRows 95 = .ok (.getfield 76, 3) := by decide +kernel
theorem dX9_findRows_98 : decode cX9_findRows 98 = .ok (.iconst 3, 1) := by decide +kernel
theorem dX9_findRows_99 : decode cX9_findRows 99 = .ok (.aload_n 0, 1) := by decide +kernel
theorem dX9_findRows_100 : decode cX9_findRows 100 = .ok (.getfield 326, 3) := by decide +kernel
theorem dX9_findRows_103 : decode cX9_findRows 103 = .ok (.imul, 1) := by decide +kernel
theorem dX9_findRows_104 : decode cX9_findRows 104 = .ok (.iconst 2, 1) := by decide +kernel
theorem dX9_findRows_105 : decode cX9_findRows 105 = .ok (.iadd, 1) := by decide +kernel
theorem dX9_findRows_106 : decode cX9_findRows 106 = .ok (.aload_n 0, 1) := by decide +kernel
theorem dX9_findRows_107 : decode cX9_findRows 107 = .ok (.getfield 60, 3) := by decide +kernel
theorem dX9_findRows_110 : decode cX9_findRows 110 = .ok (.bipush 9, 2) := by decide +kernel
theorem dX9_findRows_112 : decode cX9_findRows 112 = .ok (.iload_n 2, 1) := by decide +kernel
theorem dX9_findRows_113 : decode cX9_findRows 113 = .ok (.imul, 1) := by decide +kernel
theorem dX9_findRows_114 : decode cX9_findRows 114 = .ok (.iload_n 3, 1) := by decide +kernel
theorem dX9_findRows_115 : decode cX9_findRows 115 = .ok (.iadd, 1) := by decide +kernel
theorem dX9_findRows_116 : decode cX9_findRows 116 = .ok (.iaload, 1) := by decide +kernel
theorem dX9_findRows_117 : decode cX9_findRows 117 = .ok (.iastore, 1) := by decide +kernel
theorem dX9_findRows_118 : decode cX9_findRows 118 = .ok (.aload_n 0, 1) := by decide +kernel
theorem dX9_findRows_119 : decode cX9_findRows 119 = .ok (.dup, 1) := by decide +kernel
theorem dX9_findRows_120 : decode cX9_findRows 120 = .ok (.getfield 326, 3) := by decide +kernel
theorem dX9_findRows_123 : decode cX9_findRows 123 = .ok (.iconst 1, 1) := by decide +kernel
theorem dX9_findRows_124 : decode cX9_findRows 124 = .ok (.iadd, 1) := by decide +kernel
theorem dX9_findRows_125 : decode cX9_findRows 125 = .ok (.putfield 326, 3) := by decide +kernel
theorem dX9_findRows_128 : decode cX9_findRows 128 = .ok (.iinc 3 1, 3) := by decide +kernel
theorem dX9_findRows_131 : decode cX9_findRows 131 = .ok (.goto (-103), 3) := by decide +kernel
theorem dX9_findRows_134 : decode cX9_findRows 134 = .ok (.iinc 2 1, 3) := by decide +kernel
theorem dX9_findRows_137 : decode cX9_findRows 137 = .ok (.goto (-125), 3) := by decide +kernel
theorem dX9_findRows_140 : decode cX9_findRows 140 = .ok (.iload_n 1, 1) := by decide +kernel
theorem dX9_findRows_141 : decode cX9_findRows 141 = .ok (.ifCond .lt 7, 3) := by decide +kernel
theorem dX9_findRows_144 : decode cX9_findRows 144 = .ok (.iconst 1, 1) := by decide +kernel
theorem dX9_findRows_145 : decode cX9_findRows 145 = .ok (.goto 4, 3) := by decide +kernel
theorem dX9_findRows_148 : decode cX9_findRows 148 = .ok (.iconst 0, 1) := by decide +kernel
theorem dX9_findRows_149 : decode cX9_findRows 149 = .ok (.ireturn, 1) := by decide +kernel
theorem dX9_prove_0 : decode cX9_prove 0 = .ok (.aload_n 0, 1) := by decide +kernel
theorem dX9_prove_1 : decode cX9_prove 1 = .ok (.invokevirtual 329, 3) := by decide +kernel
theorem dX9_prove_4 : decode cX9_prove 4 = .ok (.ifCond .ne 6, 3) := by decide +kernel
theorem dX9_prove_7 : decode cX9_prove 7 = .ok (.bipush (-3), 2) := by decide +kernel
theorem dX9_prove_9 : decode cX9_prove 9 = .ok (.ireturn, 1) := by decide +kernel
theorem dX9_prove_10 : decode cX9_prove 10 = .ok (.aload_n 0, 1) := by decide +kernel
theorem dX9_prove_11 : decode cX9_prove 11 = .ok (.aload_n 0, 1) := by decide +kernel
theorem dX9_prove_12 : decode cX9_prove 12 = .ok (.getfield 326, 3) := by decide +kernel
theorem dX9_prove_15 : decode cX9_prove 15 = .ok (.putfield 333, 3) := by decide +kernel
theorem dX9_prove_18 : decode cX9_prove 18 = .ok (.iconst 0, 1) := by decide +kernel
theorem dX9_prove_19 : decode cX9_prove 19 = .ok (.istore_n 1, 1) := by decide +kernel
theorem dX9_prove_20 : decode cX9_prove 20 = .ok (.iload_n 1, 1) := by decide +kernel
theorem dX9_prove_21 : decode cX9_prove 21 = .ok (.iconst 3, 1) := by decide +kernel
theorem dX9_prove_22 : decode cX9_prove 22 = .ok (.aload_n 0, 1) := by decide +kernel
theorem dX9_prove_23 : decode cX9_prove 23 = .ok (.getfield 333, 3) := by decide +kernel
theorem dX9_prove_26 : decode cX9_prove 26 = .ok (.imul, 1) := by decide +kernel
theorem dX9_prove_27 : decode cX9_prove 27 = .ok (.if_icmp .ge 21, 3) := by decide +kernel
theorem dX9_prove_30 : decode cX9_prove 30 = .ok (.aload_n 0, 1) := by decide +kernel
theorem dX9_prove_31 : decode cX9_prove 31 = .ok (.getfield 73, 3) := by decide +kernel
theorem dX9_prove_34 : decode cX9_prove 34 = .ok (.iload_n 1, 1) := by decide +kernel
theorem dX9_prove_35 : decode cX9_prove 35 = .ok (.aload_n 0, 1) := by decide +kernel
theorem dX9_prove_36 : decode cX9_prove 36 = .ok (.getfield 76, 3) := by decide +kernel
theorem dX9_prove_39 : decode cX9_prove 39 = .ok (.iload_n 1, 1) := by decide +kernel
theorem dX9_prove_40 : decode cX9_prove 40 = .ok (.iaload, 1) := by decide +kernel
theorem dX9_prove_41 : decode cX9_prove 41 = .ok (.iastore, 1) := by decide +kernel
theorem dX9_prove_42 : decode cX9_prove 42 = .ok (.iinc 1 1, 3) := by decide +kernel
theorem dX9_prove_45 : decode cX9_prove 45 = .ok (.goto (-25), 3) := by decide +kernel
theorem dX9_prove_48 : decode cX9_prove 48 = .ok (.aload_n 0, 1) := by decide +kernel
theorem dX9_prove_49 : decode cX9_prove 49 = .ok (.getfield 333, 3) := by decide +kernel
theorem dX9_prove_52 : decode cX9_prove 52 = .ok (.ireturn, 1) := by decide +kernel
theorem dX9_isRow_0 : decode cX9_isRow 0 = .ok (.iload_n 1, 1) := by decide +kernel
theorem dX9_isRow_1 : decode cX9_isRow 1 = .ok (.iconst 0, 1) := by decide +kernel
theorem dX9_isRow_2 : decode cX9_isRow 2 = .ok (.aload_n 0, 1) := by decide +kernel
theorem dX9_isRow_3 : decode cX9_isRow 3 = .ok (.getfield 333, 3) := by decide +kernel
theorem dX9_isRow_6 : decode cX9_isRow 6 = .ok (.iconst 1, 1) := by decide +kernel
theorem dX9_isRow_7 : decode cX9_isRow 7 = .ok (.isub, 1) := by decide +kernel
theorem dX9_isRow_8 : decode cX9_isRow 8 = .ok (.invokestatic 109, 3) := by decide +kernel
theorem dX9_isRow_11 : decode cX9_isRow 11 = .ok (.ifCond .eq 16, 3) := by decide +kernel
theorem dX9_isRow_14 : decode cX9_isRow 14 = .ok (.iload_n 2, 1) := by decide +kernel
theorem dX9_isRow_15 : decode cX9_isRow 15 = .ok (.iconst 0, 1) := by decide +kernel
theorem dX9_isRow_16 : decode cX9_isRow 16 = .ok (.iconst 2, 1) := by decide +kernel
theorem dX9_isRow_17 : decode cX9_isRow 17 = .ok (.invokestatic 109, 3) := by decide +kernel
theorem dX9_isRow_20 : decode cX9_isRow 20 = .ok (.ifCond .eq 7, 3) := by decide +kernel
theorem dX9_isRow_23 : decode cX9_isRow 23 = .ok (.iconst 1, 1) := by decide +kernel
theorem dX9_isRow_24 : decode cX9_isRow 24 = .ok (.goto 4, 3) := by decide +kernel
theorem dX9_isRow_27 : decode cX9_isRow 27 = .ok (.iconst 0, 1) := by decide +kernel
theorem dX9_isRow_28 : decode cX9_isRow 28 = .ok (.ireturn, 1) := by decide +kernel
theorem dX9_row_0 : decode cX9_row 0 = .ok (.aload_n 0, 1) := by decide +kernel
theorem dX9_row_1 : decode cX9_row 1 = .ok (.iload_n 1, 1) := by decide +kernel
theorem dX9_row_2 : decode cX9_row 2 = .ok (.iload_n 2, 1) := by decide +kernel
theorem dX9_row_3 : decode cX9_row 3 = .ok (.invokevirtual 336, 3) := by decide +kernel
theorem dX9_row_6 : decode cX9_row 6 = .ok (.ifCond .eq 16, 3) := by decide +kernel
theorem dX9_row_9 : decode cX9_row 9 = .ok (.aload_n 0, 1) := by decide +kernel
theorem dX9_row_10 : decode cX9_row 10 = .ok (.getfield 73, 3) := by decide +kernel
theorem dX9_row_13 : decode cX9_row 13 = .ok (.iconst 3, 1) := by decide +kernel
theorem dX9_row_14 : decode cX9_row 14 = .ok (.iload_n 1, 1) := by decide +kernel
theorem dX9_row_15 : decode cX9_row 15 = .ok (.imul, 1) := by decide +kernel
theorem dX9_row_16 : decode cX9_row 16 = .ok (.iload_n 2, 1) := by decide +kernel
theorem dX9_row_17 : decode cX9_row 17 = .ok (.iadd, 1) := by decide +kernel
theorem dX9_row_18 : decode cX9_row 18 = .ok (.iaload, 1) := by decide +kernel
theorem dX9_row_19 : decode cX9_row 19 = .ok (.goto 5, 3) := by decide +kernel
theorem dX9_row_22 : decode cX9_row 22 = .ok (.bipush (-9), 2) := by decide +kernel
theorem dX9_row_24 : decode cX9_row 24 = .ok (.ireturn, 1) := by decide +kernel
theorem dX9_alterRow_0 : decode cX9_alterRow 0 = .ok (.aload_n 0, 1) := by decide +kernel
theorem dX9_alterRow_1 : decode cX9_alterRow 1 = .ok (.iload_n 1, 1) := by decide +kernel
theorem dX9_alterRow_2 : decode cX9_alterRow 2 = .ok (.iload_n 2, 1) := by decide +kernel
theorem dX9_alterRow_3 : decode cX9_alterRow 3 = .ok (.invokevirtual 336, 3) := by decide +kernel
theorem dX9_alterRow_6 : decode cX9_alterRow 6 = .ok (.ifCond .ne 6, 3) := by decide +kernel
theorem dX9_alterRow_9 : decode cX9_alterRow 9 = .ok (.bipush (-9), 2) := by decide +kernel
theorem dX9_alterRow_11 : decode cX9_alterRow 11 = .ok (.ireturn, 1) := by decide +kernel
theorem dX9_alterRow_12 : decode cX9_alterRow 12 = .ok (.aload_n 0, 1) := by decide +kernel
theorem dX9_alterRow_13 : decode cX9_alterRow 13 = .ok (.getfield 73, 3) := by decide +kernel
theorem dX9_alterRow_16 : decode cX9_alterRow 16 = .ok (.iconst 3, 1) := by decide +kernel
theorem dX9_alterRow_17 : decode cX9_alterRow 17 = .ok (.iload_n 1, 1) := by decide +kernel
theorem dX9_alterRow_18 : decode cX9_alterRow 18 = .ok (.imul, 1) := by decide +kernel
theorem dX9_alterRow_19 : decode cX9_alterRow 19 = .ok (.iload_n 2, 1) := by decide +kernel
theorem dX9_alterRow_20 : decode cX9_alterRow 20 = .ok (.iadd, 1) := by decide +kernel
theorem dX9_alterRow_21 : decode cX9_alterRow 21 = .ok (.iaload, 1) := by decide +kernel
theorem dX9_alterRow_22 : decode cX9_alterRow 22 = .ok (.istore 4, 2) := by decide +kernel
theorem dX9_alterRow_24 : decode cX9_alterRow 24 = .ok (.aload_n 0, 1) := by decide +kernel
theorem dX9_alterRow_25 : decode cX9_alterRow 25 = .ok (.getfield 73, 3) := by decide +kernel
theorem dX9_alterRow_28 : decode cX9_alterRow 28 = .ok (.iconst 3, 1) := by decide +kernel
theorem dX9_alterRow_29 : decode cX9_alterRow 29 = .ok (.iload_n 1, 1) := by decide +kernel
theorem dX9_alterRow_30 : decode cX9_alterRow 30 = .ok (.imul, 1) := by decide +kernel
theorem dX9_alterRow_31 : decode cX9_alterRow 31 = .ok (.iload_n 2, 1) := by decide +kernel
theorem dX9_alterRow_32 : decode cX9_alterRow 32 = .ok (.iadd, 1) := by decide +kernel
theorem dX9_alterRow_33 : decode cX9_alterRow 33 = .ok (.iload_n 3, 1) := by decide +kernel
theorem dX9_alterRow_34 : decode cX9_alterRow 34 = .ok (.iastore, 1) := by decide +kernel
theorem dX9_alterRow_35 : decode cX9_alterRow 35 = .ok (.iload 4, 2) := by decide +kernel
theorem dX9_alterRow_37 : decode cX9_alterRow 37 = .ok (.ireturn, 1) := by decide +kernel
theorem dX9_judge_0 : decode cX9_judge 0 = .ok (.aload_n 0, 1) := by decide +kernel
theorem dX9_judge_1 : decode cX9_judge 1 = .ok (.invokevirtual 329, 3) := by decide +kernel
theorem dX9_judge_4 : decode cX9_judge 4 = .ok (.ifCond .ne 6, 3) := by decide +kernel
theorem dX9_judge_7 : decode cX9_judge 7 = .ok (.bipush (-3), 2) := by decide +kernel
theorem dX9_judge_9 : decode cX9_judge 9 = .ok (.ireturn, 1) := by decide +kernel
theorem dX9_judge_10 : decode cX9_judge 10 = .ok (.iconst 0, 1) := by decide +kernel
theorem dX9_judge_11 : decode cX9_judge 11 = .ok (.istore_n 1, 1) := by decide +kernel
theorem dX9_judge_12 : decode cX9_judge 12 = .ok (.iload_n 1, 1) := by decide +kernel
theorem dX9_judge_13 : decode cX9_judge 13 = .ok (.aload_n 0, 1) := by decide +kernel
theorem dX9_judge_14 : decode cX9_judge 14 = .ok (.getfield 333, 3) := by decide +kernel
theorem dX9_judge_17 : decode cX9_judge 17 = .ok (.if_icmp .ge 77, 3) := by decide +kernel
theorem dX9_judge_20 : decode cX9_judge 20 = .ok (.iload_n 1, 1) := by decide +kernel
theorem dX9_judge_21 : decode cX9_judge 21 = .ok (.aload_n 0, 1) := by decide +kernel
theorem dX9_judge_22 : decode cX9_judge 22 = .ok (.getfield 326, 3) := by decide +kernel
theorem dX9_judge_25 : decode cX9_judge 25 = .ok (.if_icmp .ge 7, 3) := by decide +kernel
theorem dX9_judge_28 : decode cX9_judge 28 = .ok (.iconst 1, 1) := by decide +kernel
theorem dX9_judge_29 : decode cX9_judge 29 = .ok (.goto 4, 3) := by decide +kernel
theorem dX9_judge_32 : decode cX9_judge 32 = .ok (.iconst 0, 1) := by decide +kernel
theorem dX9_judge_33 : decode cX9_judge 33 = .ok (.istore_n 2, 1) := by decide +kernel
theorem dX9_judge_34 : decode cX9_judge 34 = .ok (.iconst 0, 1) := by decide +kernel
theorem dX9_judge_35 : decode cX9_judge 35 = .ok (.istore_n 3, 1) := by decide +kernel
theorem dX9_judge_36 : decode cX9_judge 36 = .ok (.iload_n 3, 1) := by decide +kernel
theorem dX9_judge_37 : decode cX9_judge 37 = .ok (.iconst 3, 1) := by decide +kernel
theorem dX9_judge_38 : decode cX9_judge 38 = .ok (.if_icmp .ge 42, 3) := by decide +kernel
theorem dX9_judge_41 : decode cX9_judge 41 = .ok (.iload_n 2, 1) := by decide +kernel
theorem dX9_judge_42 : decode cX9_judge 42 = .ok (.ifCond .eq 38, 3) := by decide +kernel
theorem dX9_judge_45 : decode cX9_judge 45 = .ok (.aload_n 0, 1) := by decide +kernel
theorem dX9_judge_46 : decode cX9_judge 46 = .ok (.getfield 73, 3) := by decide +kernel
theorem dX9_judge_49 : decode cX9_judge 49 = .ok (.iconst 3, 1) := by decide +kernel
theorem dX9_judge_50 : decode cX9_judge 50 = .ok (.iload_n 1, 1) := by decide +kernel
theorem dX9_judge_51 : decode cX9_judge 51 = .ok (.imul, 1) := by decide +kernel
theorem dX9_judge_52 : decode cX9_judge 52 = .ok (.iload_n 3, 1) := by decide +kernel
theorem dX9_judge_53 : decode cX9_judge 53 = .ok (.iadd, 1) := by decide +kernel
theorem dX9_judge_54 : decode cX9_judge 54 = .ok (.iaload, 1) := by decide +kernel
theorem dX9_judge_55 : decode cX9_judge 55 = .ok (.aload_n 0, 1) := by decide +kernel
theorem dX9_judge_56 : decode cX9_judge 56 = .ok (.getfield 76, 3) := by decide +kernel
theorem dX9_judge_59 : decode cX9_judge 59 = .ok (.iconst 3, 1) := by decide +kernel
theorem dX9_judge_60 : decode cX9_judge 60 = .ok (.iload_n 1, 1) := by decide +kernel
theorem dX9_judge_61 : decode cX9_judge 61 = .ok (.imul, 1) := by decide +kernel
theorem dX9_judge_62 : decode cX9_judge 62 = .ok (.iload_n 3, 1) := by decide +kernel
theorem dX9_judge_63 : decode cX9_judge 63 = .ok (.iadd, 1) := by decide +kernel
theorem dX9_judge_64 : decode cX9_judge 64 = .ok (.iaload, 1) := by decide +kernel
theorem dX9_judge_65 : decode cX9_judge 65 = .ok (.if_icmp .ne 7, 3) := by decide +kernel
theorem dX9_judge_68 : decode cX9_judge 68 = .ok (.iconst 1, 1) := by decide +kernel
theorem dX9_judge_69 : decode cX9_judge 69 = .ok (.goto 4, 3) := by decide +kernel
theorem dX9_judge_72 : decode cX9_judge 72 = .ok (.iconst 0, 1) := by decide +kernel
theorem dX9_judge_73 : decode cX9_judge 73 = .ok (.istore_n 2, 1) := by decide +kernel
theorem dX9_judge_74 : decode cX9_judge 74 = .ok (.iinc 3 1, 3) := by decide +kernel
theorem dX9_judge_77 : decode cX9_judge 77 = .ok (.goto (-41), 3) := by decide +kernel
theorem dX9_judge_80 : decode cX9_judge 80 = .ok (.iload_n 2, 1) := by decide +kernel
theorem dX9_judge_81 : decode cX9_judge 81 = .ok (.ifCond .ne 7, 3) := by decide +kernel
theorem dX9_judge_84 : decode cX9_judge 84 = .ok (.iload_n 1, 1) := by decide +kernel
theorem dX9_judge_85 : decode cX9_judge 85 = .ok (.iconst 1, 1) := by decide +kernel
theorem dX9_judge_86 : decode cX9_judge 86 = .ok (.iadd, 1) := by decide +kernel
theorem dX9_judge_87 : decode cX9_judge 87 = .ok (.ireturn, 1) := by decide +kernel
theorem dX9_judge_88 : decode cX9_judge 88 = .ok (.iinc 1 1, 3) := by decide +kernel
theorem dX9_judge_91 : decode cX9_judge 91 = .ok (.goto (-79), 3) := by decide +kernel
theorem dX9_judge_94 : decode cX9_judge 94 = .ok (.aload_n 0, 1) := by decide +kernel
theorem dX9_judge_95 : decode cX9_judge 95 = .ok (.getfield 333, 3) := by decide +kernel
theorem dX9_judge_98 : decode cX9_judge 98 = .ok (.aload_n 0, 1) := by decide +kernel
theorem dX9_judge_99 : decode cX9_judge 99 = .ok (.getfield 326, 3) := by decide +kernel
theorem dX9_judge_102 : decode cX9_judge 102 = .ok (.if_icmp .ge 9, 3) := by decide +kernel
theorem dX9_judge_105 : decode cX9_judge 105 = .ok (.sipush 222, 3) := by decide +kernel
theorem dX9_judge_108 : decode cX9_judge 108 = .ok (.goto 4, 3) := by decide +kernel
theorem dX9_judge_111 : decode cX9_judge 111 = .ok (.iconst 0, 1) := by decide +kernel
theorem dX9_judge_112 : decode cX9_judge 112 = .ok (.ireturn, 1) := by decide +kernel
theorem dX9_isShelf_0 : decode cX9_isShelf 0 = .ok (.iload_n 0, 1) := by decide +kernel
theorem dX9_isShelf_1 : decode cX9_isShelf 1 = .ok (.iconst 0, 1) := by decide +kernel
theorem dX9_isShelf_2 : decode cX9_isShelf 2 = .ok (.iconst 3, 1) := by decide +kernel
theorem dX9_isShelf_3 : decode cX9_isShelf 3 = .ok (.invokestatic 109, 3) := by decide +kernel
theorem dX9_isShelf_6 : decode cX9_isShelf 6 = .ok (.ireturn, 1) := by decide +kernel
theorem dX9_sheet_0 : decode cX9_sheet 0 = .ok (.iload_n 1, 1) := by decide +kernel
theorem dX9_sheet_1 : decode cX9_sheet 1 = .ok (.invokestatic 340, 3) := by decide +kernel
theorem dX9_sheet_4 : decode cX9_sheet 4 = .ok (.ifCond .eq 22, 3) := by decide +kernel
theorem dX9_sheet_7 : decode cX9_sheet 7 = .ok (.iload_n 2, 1) := by decide +kernel
theorem dX9_sheet_8 : decode cX9_sheet 8 = .ok (.iconst (-1), 1) := by decide +kernel
theorem dX9_sheet_9 : decode cX9_sheet 9 = .ok (.iconst 3, 1) := by decide +kernel
theorem dX9_sheet_10 : decode cX9_sheet 10 = .ok (.invokestatic 109, 3) := by decide +kernel
theorem dX9_sheet_13 : decode cX9_sheet 13 = .ok (.ifCond .eq 13, 3) := by decide +kernel
theorem dX9_sheet_16 : decode cX9_sheet 16 = .ok (.iload_n 2, 1) := by decide +kernel
theorem dX9_sheet_17 : decode cX9_sheet 17 = .ok (.ifCond .lt 11, 3) := by decide +kernel
theorem dX9_sheet_20 : decode cX9_sheet 20 = .ok (.iload_n 3, 1) := by decide +kernel
theorem dX9_sheet_21 : decode cX9_sheet 21 = .ok (.bipush 40, 2) := by decide +kernel
theorem dX9_sheet_23 : decode cX9_sheet 23 = .ok (.if_icmp .le 5, 3) := by decide +kernel
theorem dX9_sheet_26 : decode cX9_sheet 26 = .ok (.iconst (-1), 1) := by decide +kernel
theorem dX9_sheet_27 : decode cX9_sheet 27 = .ok (.ireturn, 1) := by decide +kernel
theorem dX9_sheet_28 : decode cX9_sheet 28 = .ok (.iload_n 2, 1) := by decide +kernel
theorem dX9_sheet_29 : decode cX9_sheet 29 = .ok (.ifCond .lt 10, 3) := by decide +kernel
theorem dX9_sheet_32 : decode cX9_sheet 32 = .ok (.iload_n 3, 1) := by decide +kernel
theorem dX9_sheet_33 : decode cX9_sheet 33 = .ok (.ifCond .ge 6, 3) := by decide +kernel
theorem dX9_sheet_36 : decode cX9_sheet 36 = .ok (.bipush (-14), 2) := by decide +kernel
theorem dX9_sheet_38 : decode cX9_sheet 38 = .ok (.ireturn, 1) := by decide +kernel
theorem dX9_sheet_39 : decode cX9_sheet 39 = .ok (.aload_n 0, 1) := by decide +kernel
theorem dX9_sheet_40 : decode cX9_sheet 40 = .ok (.getfield 79, 3) := by decide +kernel
theorem dX9_sheet_43 : decode cX9_sheet 43 = .ok (.iload_n 1, 1) := by decide +kernel
theorem dX9_sheet_44 : decode cX9_sheet 44 = .ok (.iload_n 2, 1) := by decide +kernel
theorem dX9_sheet_45 : decode cX9_sheet 45 = .ok (.iastore, 1) := by decide +kernel
theorem dX9_sheet_46 : decode cX9_sheet 46 = .ok (.aload_n 0, 1) := by decide +kernel
theorem dX9_sheet_47 : decode cX9_sheet 47 = .ok (.getfield 82, 3) := by decide +kernel
theorem dX9_sheet_50 : decode cX9_sheet 50 = .ok (.iload_n 1, 1) := by decide +kernel
theorem dX9_sheet_51 : decode cX9_sheet 51 = .ok (.iload_n 2, 1) := by decide +kernel
theorem dX9_sheet_52 : decode cX9_sheet 52 = .ok (.ifCond .ge 7, 3) := by decide +kernel
theorem dX9_sheet_55 : decode cX9_sheet 55 = .ok (.iconst 0, 1) := by decide +kernel
theorem dX9_sheet_56 : decode cX9_sheet 56 = .ok (.goto 4, 3) := by decide +kernel
theorem dX9_sheet_59 : decode cX9_sheet 59 = .ok (.iload_n 3, 1) := by decide +kernel
theorem dX9_sheet_60 : decode cX9_sheet 60 = .ok (.iastore, 1) := by decide +kernel
theorem dX9_sheet_61 : decode cX9_sheet 61 = .ok (.iconst 0, 1) := by decide +kernel
theorem dX9_sheet_62 : decode cX9_sheet 62 = .ok (.istore 4, 2) := by decide +kernel
theorem dX9_sheet_64 : decode cX9_sheet 64 = .ok (.iload 4, 2) := by decide +kernel
theorem dX9_sheet_66 : decode cX9_sheet 66 = .ok (.bipush 40, 2) := by decide +kernel
theorem dX9_sheet_68 : decode cX9_sheet 68 = .ok (.if_icmp .ge 22, 3) := by decide +kernel
theorem dX9_sheet_71 : decode cX9_sheet 71 = .ok (.aload_n 0, 1) := by decide +kernel
theorem dX9_sheet_72 : decode cX9_sheet 72 = .ok (.getfield 85, 3) := by decide +kernel
theorem dX9_sheet_75 : decode cX9_sheet 75 = .ok (.bipush 40, 2) := by decide +kernel
theorem dX9_sheet_77 : decode cX9_sheet 77 = .ok (.iload_n 1, 1) := by decide +kernel
theorem dX9_sheet_78 : decode cX9_sheet 78 = .ok (.imul, 1) := by decide +kernel
theorem dX9_sheet_79 : decode cX9_sheet 79 = .ok (.iload 4, 2) := by decide +kernel
theorem dX9_sheet_81 : decode cX9_sheet 81 = .ok (.iadd, 1) := by decide +kernel
theorem dX9_sheet_82 : decode cX9_sheet 82 = .ok (.lconst 0, 1) := by decide +kernel
theorem dX9_sheet_83 : decode cX9_sheet 83 = .ok (.lastore, 1) := by decide +kernel
theorem dX9_sheet_84 : decode cX9_sheet 84 = .ok (.iinc 4 1, 3) := by decide +kernel
theorem dX9_sheet_87 : decode cX9_sheet 87 = .ok (.goto (-23), 3) := by decide +kernel
theorem dX9_sheet_90 : decode cX9_sheet 90 = .ok (.iconst 1, 1) := by decide +kernel
theorem dX9_sheet_91 : decode cX9_sheet 91 = .ok (.ireturn, 1) := by decide +kernel
theorem dX9_put_0 : decode cX9_put 0 = .ok (.iload_n 1, 1) := by decide +kernel
theorem dX9_put_1 : decode cX9_put 1 = .ok (.invokestatic 340, 3) := by decide +kernel
theorem dX9_put_4 : decode cX9_put 4 = .ok (.ifCond .ne 5, 3) := by decide +kernel
theorem dX9_put_7 : decode cX9_put 7 = .ok (.iconst (-1), 1) := by decide +kernel
theorem dX9_put_8 : decode cX9_put 8 = .ok (.ireturn, 1) := by decide +kernel
theorem dX9_put_9 : decode cX9_put 9 = .ok (.aload_n 0, 1) := by decide +kernel
theorem dX9_put_10 : decode cX9_put 10 = .ok (.getfield 79, 3) := by decide +kernel
theorem dX9_put_13 : decode cX9_put 13 = .ok (.iload_n 1, 1) := by decide +kernel
theorem dX9_put_14 : decode cX9_put 14 = .ok (.iaload, 1) := by decide +kernel
theorem dX9_put_15 : decode cX9_put 15 = .ok (.ifCond .ge 6, 3) := by decide +kernel
theorem dX9_put_18 : decode cX9_put 18 = .ok (.bipush (-11), 2) := by decide +kernel
theorem dX9_put_20 : decode cX9_put 20 = .ok (.ireturn, 1) := by decide +kernel
theorem dX9_put_21 : decode cX9_put 21 = .ok (.iload_n 2, 1) := by decide +kernel
theorem dX9_put_22 : decode cX9_put 22 = .ok (.iconst 0, 1) := by decide +kernel
theorem dX9_put_23 : decode cX9_put 23 = .ok (.aload_n 0, 1) := by decide +kernel
theorem dX9_put_24 : decode cX9_put 24 = .ok (.getfield 82, 3) := by decide +kernel
theorem dX9_put_27 : decode cX9_put 27 = .ok (.iload_n 1, 1) := by decide +kernel
theorem dX9_put_28 : decode cX9_put 28 = .ok (.iaload, 1) := by decide +kernel
theorem dX9_put_29 : decode cX9_put 29 = .ok (.iconst 1, 1) := by decide +kernel
theorem dX9_put_30 : decode cX9_put 30 = .ok (.isub, 1) := by decide +kernel
theorem dX9_put_31 : decode cX9_put 31 = .ok (.invokestatic 109, 3) := by decide +kernel
theorem dX9_put_34 : decode cX9_put 34 = .ok (.ifCond .ne 6, 3) := by decide +kernel
theorem dX9_put_37 : decode cX9_put 37 = .ok (.bipush (-12), 2) := by decide +kernel
theorem dX9_put_39 : decode cX9_put 39 = .ok (.ireturn, 1) := by decide +kernel
theorem dX9_put_40 : decode cX9_put 40 = .ok (.aload_n 0, 1) := by decide +kernel
theorem dX9_put_41 : decode cX9_put 41 = .ok (.getfield 85, 3) := by decide +kernel
theorem dX9_put_44 : decode cX9_put 44 = .ok (.bipush 40, 2) := by decide +kernel
theorem dX9_put_46 : decode cX9_put 46 = .ok (.iload_n 1, 1) := by decide +kernel
theorem dX9_put_47 : decode cX9_put 47 = .ok (.imul, 1) := by decide +kernel
theorem dX9_put_48 : decode cX9_put 48 = .ok (.iload_n 2, 1) := by decide +kernel
theorem dX9_put_49 : decode cX9_put 49 = .ok (.iadd, 1) := by decide +kernel
theorem dX9_put_50 : decode cX9_put 50 = .ok (.aload_n 0, 1) := by decide +kernel
theorem dX9_put_51 : decode cX9_put 51 = .ok (.getfield 79, 3) := by decide +kernel
theorem dX9_put_54 : decode cX9_put 54 = .ok (.iload_n 1, 1) := by decide +kernel
theorem dX9_put_55 : decode cX9_put 55 = .ok (.iaload, 1) := by decide +kernel
theorem dX9_put_56 : decode cX9_put 56 = .ok (.ifCond .ne 9, 3) := by decide +kernel
theorem dX9_put_59 : decode cX9_put 59 = .ok (.iload_n 3, 1) := by decide +kernel
theorem dX9_put_60 : decode cX9_put 60 = .ok (.i2b, 1) := by decide +kernel
theorem dX9_put_61 : decode cX9_put 61 = .ok (.i2l, 1) := by decide +kernel
theorem dX9_put_62 : decode cX9_put 62 = .ok (.goto 21, 3) := by decide +kernel
theorem dX9_put_65 : decode cX9_put 65 = .ok (.aload_n 0, 1) := by decide +kernel
theorem dX9_put_66 : decode cX9_put 66 = .ok (.getfield 79, 3) := by decide +kernel
theorem dX9_put_69 : decode cX9_put 69 = .ok (.iload_n 1, 1) := by decide +kernel
theorem dX9_put_70 : decode cX9_put 70 = .ok (.iaload, 1) := by decide +kernel
theorem dX9_put_71 : decode cX9_put 71 = .ok (.iconst 1, 1) := by decide +kernel
theorem dX9_put_72 : decode cX9_put 72 = .ok (.if_icmp .ne 9, 3) := by decide +kernel
theorem dX9_put_75 : decode cX9_put 75 = .ok (.iload_n 3, 1) := by decide +kernel
theorem dX9_put_76 : decode cX9_put 76 = .ok (.i2s, 1) := by decide +kernel
theorem dX9_put_77 : decode cX9_put 77 = .ok (.i2l, 1) := by decide +kernel
theorem dX9_put_78 : decode cX9_put 78 = .ok (.goto 5, 3) := by decide +kernel
theorem dX9_put_81 : decode cX9_put 81 = .ok (.iload_n 3, 1) := by decide +kernel
theorem dX9_put_82 : decode cX9_put 82 = .ok (.i2l, 1) := by decide +kernel
theorem dX9_put_83 : decode cX9_put 83 = .ok (.lastore, 1) := by decide +kernel
theorem dX9_put_84 : decode cX9_put 84 = .ok (.iconst 1, 1) := by decide +kernel
theorem dX9_put_85 : decode cX9_put 85 = .ok (.ireturn, 1) := by decide +kernel
theorem dX9_lacksSort_0 : decode cX9_lacksSort 0 = .ok (.aload_n 0, 1) := by decide +kernel
theorem dX9_lacksSort_1 : decode cX9_lacksSort 1 = .ok (.getfield 79, 3) := by decide +kernel
theorem dX9_lacksSort_4 : decode cX9_lacksSort 4 = .ok (.iload_n 1, 1) := by decide +kernel
theorem dX9_lacksSort_5 : decode cX9_lacksSort 5 = .ok (.iaload, 1) := by decide +kernel
theorem dX9_lacksSort_6 : decode cX9_lacksSort 6 = .ok (.ifCond .ge 8, 3) := by decide +kernel
theorem dX9_lacksSort_9 : decode cX9_lacksSort 9 = .ok (.bipush (-11), 2) := by decide +kernel
theorem dX9_lacksSort_11 : decode cX9_lacksSort 11 = .ok (.goto 19, 3) := by decide +kernel
theorem dX9_lacksSort_14 : decode cX9_lacksSort 14 = .ok (.aload_n 0, 1) := by decide +kernel
theorem dX9_lacksSort_15 : decode cX9_lacksSort 15 = .ok (.getfield 79, 3) := by decide +kernel
theorem dX9_lacksSort_18 : decode cX9_lacksSort 18 = .ok (.iload_n 1, 1) := by decide +kernel
theorem dX9_lacksSort_19 : decode cX9_lacksSort 19 = .ok (.iaload, 1) := by decide +kernel
theorem dX9_lacksSort_20 : decode cX9_lacksSort 20 = .ok (.iload_n 2, 1) := by decide +kernel
theorem dX9_lacksSort_21 : decode cX9_lacksSort 21 = .ok (.if_icmp .eq 8, 3) := by decide +kernel
theorem dX9_lacksSort_24 : decode cX9_lacksSort 24 = .ok (.bipush (-13), 2) := by decide +kernel
theorem dX9_lacksSort_26 : decode cX9_lacksSort 26 = .ok (.goto 4, 3) := by decide +kernel
theorem dX9_lacksSort_29 : decode cX9_lacksSort 29 = .ok (.iconst 0, 1) := by decide +kernel
theorem dX9_lacksSort_30 : decode cX9_lacksSort 30 = .ok (.ireturn, 1) := by decide +kernel
theorem dX9_item_0 : decode cX9_item 0 = .ok (.iload_n 1, 1) := by decide +kernel
theorem dX9_item_1 : decode cX9_item 1 = .ok (.invokestatic 340, 3) := by decide +kernel
theorem dX9_item_4 : decode cX9_item 4 = .ok (.ifCond .eq 12, 3) := by decide +kernel
theorem dX9_item_7 : decode cX9_item 7 = .ok (.iload_n 2, 1) := by decide +kernel
theorem dX9_item_8 : decode cX9_item 8 = .ok (.iconst 0, 1) := by decide +kernel
theorem dX9_item_9 : decode cX9_item 9 = .ok (.iconst 3, 1) := by decide +kernel
theorem dX9_item_10 : decode cX9_item 10 = .ok (.invokestatic 109, 3) := by decide +kernel
theorem dX9_item_13 : decode cX9_item 13 = .ok (.ifCond .ne 5, 3) := by decide +kernel
theorem dX9_item_16 : decode cX9_item 16 = .ok (.iconst (-1), 1) := by decide +kernel
theorem dX9_item_17 : decode cX9_item 17 = .ok (.ireturn, 1) := by decide +kernel
theorem dX9_item_18 : decode cX9_item 18 = .ok (.aload_n 0, 1) := by decide +kernel
theorem dX9_item_19 : decode cX9_item 19 = .ok (.iload_n 1, 1) := by decide +kernel
theorem dX9_item_20 : decode cX9_item 20 = .ok (.iload_n 2, 1) := by decide +kernel
theorem dX9_item_21 : decode cX9_item 21 = .ok (.invokevirtual 343, 3) := by decide +kernel
theorem dX9_item_24 : decode cX9_item 24 = .ok (.istore 4, 2) := by decide +kernel
theorem dX9_item_26 : decode cX9_item 26 = .ok (.iload 4, 2) := by decide +kernel
theorem dX9_item_28 : decode cX9_item 28 = .ok (.ifCond .eq 6, 3) := by decide +kernel
theorem dX9_item_31 : decode cX9_item 31 = .ok (.iload 4, 2) := by decide +kernel
theorem dX9_item_33 : decode cX9_item 33 = .ok (.ireturn, 1) := by decide +kernel
theorem dX9_item_34 : decode cX9_item 34 = .ok (.iload_n 3, 1) := by decide +kernel
theorem dX9_item_35 : decode cX9_item 35 = .ok (.iconst 0, 1) := by decide +kernel
theorem dX9_item_36 : decode cX9_item 36 = .ok (.aload_n 0, 1) := by decide +kernel
theorem dX9_item_37 : decode cX9_item 37 = .ok (.getfield 82, 3) := by decide +kernel
theorem dX9_item_40 : decode cX9_item 40 = .ok (.iload_n 1, 1) := by decide +kernel
theorem dX9_item_41 : decode cX9_item 41 = .ok (.iaload, 1) := by decide +kernel
theorem dX9_item_42 : decode cX9_item 42 = .ok (.iconst 1, 1) := by decide +kernel
theorem dX9_item_43 : decode cX9_item 43 = .ok (.isub, 1) := by decide +kernel
theorem dX9_item_44 : decode cX9_item 44 = .ok (.invokestatic 109, 3) := by decide +kernel
theorem dX9_item_47 : decode cX9_item 47 = .ok (.ifCond .eq 18, 3) := by decide +kernel
theorem dX9_item_50 : decode cX9_item 50 = .ok (.aload_n 0, 1) := by decide +kernel
theorem dX9_item_51 : decode cX9_item 51 = .ok (.getfield 85, 3) := by decide +kernel
theorem dX9_item_54 : decode cX9_item 54 = .ok (.bipush 40, 2) := by decide +kernel
theorem dX9_item_56 : decode cX9_item 56 = .ok (.iload_n 1, 1) := by decide +kernel
theorem dX9_item_57 : decode cX9_item 57 = .ok (.imul, 1) := by decide +kernel
theorem dX9_item_58 : decode cX9_item 58 = .ok (.iload_n 3, 1) := by decide +kernel
theorem dX9_item_59 : decode cX9_item 59 = .ok (.iadd, 1) := by decide +kernel
theorem dX9_item_60 : decode cX9_item 60 = .ok (.laload, 1) := by decide +kernel
theorem dX9_item_61 : decode cX9_item 61 = .ok (.l2i, 1) := by decide +kernel
theorem dX9_item_62 : decode cX9_item 62 = .ok (.goto 5, 3) := by decide +kernel
theorem dX9_item_65 : decode cX9_item 65 = .ok (.bipush (-12), 2) := by decide +kernel
theorem dX9_item_67 : decode cX9_item 67 = .ok (.ireturn, 1) := by decide +kernel
theorem dX9_isHeld_0 : decode cX9_isHeld 0 = .ok (.iload_n 1, 1) := by decide +kernel
theorem dX9_isHeld_1 : decode cX9_isHeld 1 = .ok (.ifCond .ne 11, 3) := by decide +kernel
theorem dX9_isHeld_4 : decode cX9_isHeld 4 = .ok (.aload_n 0, 1) := by decide +kernel
theorem dX9_isHeld_5 : decode cX9_isHeld 5 = .ok (.iload_n 2, 1) := by decide +kernel
theorem dX9_isHeld_6 : decode cX9_isHeld 6 = .ok (.invokevirtual 254, 3) := by decide +kernel
theorem dX9_isHeld_9 : decode cX9_isHeld 9 = .ok (.goto 25, 3) := by decide +kernel
theorem dX9_isHeld_12 : decode cX9_isHeld 12 = .ok (.iload_n 1, 1) := by decide +kernel
theorem dX9_isHeld_13 : decode cX9_isHeld 13 = .ok (.iconst 1, 1) := by decide +kernel
theorem dX9_isHeld_14 : decode cX9_isHeld 14 = .ok (.if_icmp .ne 10, 3) := by decide +kernel
theorem dX9_isHeld_17 : decode cX9_isHeld 17 = .ok (.iload_n 2, 1) := by decide +kernel
theorem dX9_isHeld_18 : decode cX9_isHeld 18 = .ok (.invokestatic 340, 3) := by decide +kernel
theorem dX9_isHeld_21 : decode cX9_isHeld 21 = .ok (.goto 13, 3) := by decide +kernel
theorem dX9_isHeld_24 : decode cX9_isHeld 24 = .ok (.iload_n 1, 1) := by decide +kernel
theorem dX9_isHeld_25 : decode cX9_isHeld 25 = .ok (.iconst 2, 1) := by decide +kernel
theorem dX9_isHeld_26 : decode cX9_isHeld 26 = .ok (.if_icmp .ne 7, 3) := by decide +kernel
theorem dX9_isHeld_29 : decode cX9_isHeld 29 = .ok (.iconst 1, 1) := by decide +kernel
theorem dX9_isHeld_30 : decode cX9_isHeld 30 = .ok (.goto 4, 3) := by decide +kernel
theorem dX9_isHeld_33 : decode cX9_isHeld 33 = .ok (.iconst 0, 1) := by decide +kernel
theorem dX9_isHeld_34 : decode cX9_isHeld 34 = .ok (.ireturn, 1) := by decide +kernel
theorem dX9_shelf_0 : decode cX9_shelf 0 = .ok (.iload_n 1, 1) := by decide +kernel
theorem dX9_shelf_1 : decode cX9_shelf 1 = .ok (.invokestatic 340, 3) := by decide +kernel
theorem dX9_shelf_4 : decode cX9_shelf 4 = .ok (.ifCond .eq 12, 3) := by decide +kernel
theorem dX9_shelf_7 : decode cX9_shelf 7 = .ok (.aload_n 0, 1) := by decide +kernel
theorem dX9_shelf_8 : decode cX9_shelf 8 = .ok (.iload_n 2, 1) := by decide +kernel
theorem dX9_shelf_9 : decode cX9_shelf 9 = .ok (.iload_n 3, 1) := by decide +kernel
theorem dX9_shelf_10 : decode cX9_shelf 10 = .ok (.invokevirtual 346, 3) := by decide +kernel
theorem dX9_shelf_13 : decode cX9_shelf 13 = .ok (.ifCond .ne 5, 3) := by decide +kernel
theorem dX9_shelf_16 : decode cX9_shelf 16 = .ok (.iconst (-1), 1) := by decide +kernel
theorem dX9_shelf_17 : decode cX9_shelf 17 = .ok (.ireturn, 1) := by decide +kernel
theorem dX9_shelf_18 : decode cX9_shelf 18 = .ok (.aload_n 0, 1) := by decide +kernel
theorem dX9_shelf_19 : decode cX9_shelf 19 = .ok (.getfield 88, 3) := by decide +kernel
theorem dX9_shelf_22 : decode cX9_shelf 22 = .ok (.iload_n 1, 1) := by decide +kernel
theorem dX9_shelf_23 : decode cX9_shelf 23 = .ok (.iload_n 2, 1) := by decide +kernel
theorem dX9_shelf_24 : decode cX9_shelf 24 = .ok (.iconst 2, 1) := by decide +kernel
theorem dX9_shelf_25 : decode cX9_shelf 25 = .ok (.if_icmp .eq 17, 3) := by decide +kernel
theorem dX9_shelf_28 : decode cX9_shelf 28 = .ok (.iload_n 2, 1) := by decide +kernel
theorem dX9_shelf_29 : decode cX9_shelf 29 = .ok (.iconst 1, 1) := by decide +kernel
theorem dX9_shelf_30 : decode cX9_shelf 30 = .ok (.if_icmp .ne 16, 3) := by decide +kernel
theorem dX9_shelf_33 : decode cX9_shelf 33 = .ok (.aload_n 0, 1) := by decide +kernel
theorem dX9_shelf_34 : decode cX9_shelf 34 = .ok (.getfield 79, 3) := by decide +kernel
theorem dX9_shelf_37 : decode cX9_shelf 37 = .ok (.iload_n 3, 1) := by decide +kernel
theorem dX9_shelf_38 : decode cX9_shelf 38 = .ok (.iaload, 1) := by decide +kernel
theorem dX9_shelf_39 : decode cX9_shelf 39 = .ok (.ifCond .ge 7, 3) := by decide +kernel
theorem dX9_shelf_42 : decode cX9_shelf 42 = .ok (.iconst (-1), 1) := by decide +kernel
theorem dX9_shelf_43 : decode cX9_shelf 43 = .ok (.goto 4, 3) := by decide +kernel
theorem dX9_shelf_46 : decode cX9_shelf 46 = .ok (.iload_n 2, 1) := by decide +kernel
theorem dX9_shelf_47 : decode cX9_shelf 47 = .ok (.iastore, 1) := by decide +kernel
theorem dX9_shelf_48 : decode cX9_shelf 48 = .ok (.aload_n 0, 1) := by decide +kernel
theorem dX9_shelf_49 : decode cX9_shelf 49 = .ok (.getfield 91, 3) := by decide +kernel
theorem dX9_shelf_52 : decode cX9_shelf 52 = .ok (.iload_n 1, 1) := by decide +kernel
theorem dX9_shelf_53 : decode cX9_shelf 53 = .ok (.iload_n 2, 1) := by decide +kernel
theorem dX9_shelf_54 : decode cX9_shelf 54 = .ok (.iconst 1, 1) := by decide +kernel
theorem dX9_shelf_55 : decode cX9_shelf 55 = .ok (.if_icmp .ne 12, 3) := by decide +kernel
theorem dX9_shelf_58 : decode cX9_shelf 58 = .ok (.aload_n 0, 1) := by decide +kernel
theorem dX9_shelf_59 : decode cX9_shelf 59 = .ok (.getfield 79, 3) := by decide +kernel
theorem dX9_shelf_62 : decode cX9_shelf 62 = .ok (.iload_n 3, 1) := by decide +kernel
theorem dX9_shelf_63 : decode cX9_shelf 63 = .ok (.iaload, 1) := by decide +kernel
theorem dX9_shelf_64 : decode cX9_shelf 64 = .ok (.goto 4, 3) := by decide +kernel
theorem dX9_shelf_67 : decode cX9_shelf 67 = .ok (.iload_n 3, 1) := by decide +kernel
theorem dX9_shelf_68 : decode cX9_shelf 68 = .ok (.iastore, 1) := by decide +kernel
theorem dX9_shelf_69 : decode cX9_shelf 69 = .ok (.aload_n 0, 1) := by decide +kernel
theorem dX9_shelf_70 : decode cX9_shelf 70 = .ok (.getfield 94, 3) := by decide +kernel
theorem dX9_shelf_73 : decode cX9_shelf 73 = .ok (.iload_n 1, 1) := by decide +kernel
theorem dX9_shelf_74 : decode cX9_shelf 74 = .ok (.iload_n 2, 1) := by decide +kernel
theorem dX9_shelf_75 : decode cX9_shelf 75 = .ok (.iconst 1, 1) := by decide +kernel
theorem dX9_shelf_76 : decode cX9_shelf 76 = .ok (.if_icmp .ne 12, 3) := by decide +kernel
theorem dX9_shelf_79 : decode cX9_shelf 79 = .ok (.aload_n 0, 1) := by decide +kernel
theorem dX9_shelf_80 : decode cX9_shelf 80 = .ok (.getfield 82, 3) := by decide +kernel
theorem dX9_shelf_83 : decode cX9_shelf 83 = .ok (.iload_n 3, 1) := by decide +kernel
theorem dX9_shelf_84 : decode cX9_shelf 84 = .ok (.iaload, 1) := by decide +kernel
theorem dX9_shelf_85 : decode cX9_shelf 85 = .ok (.goto 4, 3) := by decide +kernel
theorem dX9_shelf_88 : decode cX9_shelf 88 = .ok (.iconst 0, 1) := by decide +kernel
theorem dX9_shelf_89 : decode cX9_shelf 89 = .ok (.iastore, 1) := by decide +kernel
theorem dX9_shelf_90 : decode cX9_shelf 90 = .ok (.iconst 1, 1) := by decide +kernel
theorem dX9_shelf_91 : decode cX9_shelf 91 = .ok (.ireturn, 1) := by decide +kernel
theorem dX9_kindOn_0 : decode cX9_kindOn 0 = .ok (.aload_n 0, 1) := by decide +kernel
theorem dX9_kindOn_1 : decode cX9_kindOn 1 = .ok (.getfield 88, 3) := by decide +kernel
theorem dX9_kindOn_4 : decode cX9_kindOn 4 = .ok (.iload_n 1, 1) := by decide +kernel
theorem dX9_kindOn_5 : decode cX9_kindOn 5 = .ok (.iaload, 1) := by decide +kernel
theorem dX9_kindOn_6 : decode cX9_kindOn 6 = .ok (.ifCond .eq 19, 3) := by decide +kernel
theorem dX9_kindOn_9 : decode cX9_kindOn 9 = .ok (.aload_n 0, 1) := by decide +kernel
theorem dX9_kindOn_10 : decode cX9_kindOn 10 = .ok (.getfield 88, 3) := by decide +kernel
theorem dX9_kindOn_13 : decode cX9_kindOn 13 = .ok (.iload_n 1, 1) := by decide +kernel
theorem dX9_kindOn_14 : decode cX9_kindOn 14 = .ok (.iaload, 1) := by decide +kernel
theorem dX9_kindOn_15 : decode cX9_kindOn 15 = .ok (.ifCond .ge 7, 3) := by decide +kernel
theorem dX9_kindOn_18 : decode cX9_kindOn 18 = .ok (.iconst (-1), 1) := by decide +kernel
theorem dX9_kindOn_19 : decode cX9_kindOn 19 = .ok (.goto 5, 3) := by decide +kernel
theorem dX9_kindOn_22 : decode cX9_kindOn 22 = .ok (.bipush 9, 2) := by decide +kernel
theorem dX9_kindOn_24 : decode cX9_kindOn 24 = .ok (.ireturn, 1) := by decide +kernel
theorem dX9_kindOn_25 : decode cX9_kindOn 25 = .ok (.aload_n 0, 1) := by decide +kernel
theorem dX9_kindOn_26 : decode cX9_kindOn 26 = .ok (.aload_n 0, 1) := by decide +kernel
theorem dX9_kindOn_27 : decode cX9_kindOn 27 = .ok (.getfield 91, 3) := by decide +kernel
theorem dX9_kindOn_30 : decode cX9_kindOn 30 = .ok (.iload_n 1, 1) := by decide +kernel
theorem dX9_kindOn_31 : decode cX9_kindOn 31 = .ok (.iaload, 1) := by decide +kernel
theorem dX9_kindOn_32 : decode cX9_kindOn 32 = .ok (.invokevirtual 254, 3) := by decide +kernel
theorem dX9_kindOn_35 : decode cX9_kindOn 35 = .ok (.ifCond .eq 17, 3) := by decide +kernel
theorem dX9_kindOn_38 : decode cX9_kindOn 38 = .ok (.aload_n 0, 1) := by decide +kernel
theorem dX9_kindOn_39 : decode cX9_kindOn 39 = .ok (.aload_n 0, 1) := by decide +kernel
theorem dX9_kindOn_40 : decode cX9_kindOn 40 = .ok (.getfield 91, 3) := by decide +kernel
theorem dX9_kindOn_43 : decode cX9_kindOn 43 = .ok (.iload_n 1, 1) := by decide +kernel
theorem dX9_kindOn_44 : decode cX9_kindOn 44 = .ok (.iaload, 1) := by decide +kernel
theorem dX9_kindOn_45 : decode cX9_kindOn 45 = .ok (.iconst 0, 1) := by decide +kernel
theorem dX9_kindOn_46 : decode cX9_kindOn 46 = .ok (.invokevirtual 235, 3) := by decide +kernel
theorem dX9_kindOn_49 : decode cX9_kindOn 49 = .ok (.goto 4, 3) := by decide +kernel
theorem dX9_kindOn_52 : decode cX9_kindOn 52 = .ok (.iconst (-1), 1) := by decide +kernel
theorem dX9_kindOn_53 : decode cX9_kindOn 53 = .ok (.ireturn, 1) := by decide +kernel
theorem dX9_isUnder_0 : decode cX9_isUnder 0 = .ok (.iload_n 1, 1) := by decide +kernel
theorem dX9_isUnder_1 : decode cX9_isUnder 1 = .ok (.ifCond .eq 28, 3) := by decide +kernel
theorem dX9_isUnder_4 : decode cX9_isUnder 4 = .ok (.iload_n 1, 1) := by decide +kernel
theorem dX9_isUnder_5 : decode cX9_isUnder 5 = .ok (.iload_n 0, 1) := by decide +kernel
theorem dX9_isUnder_6 : decode cX9_isUnder 6 = .ok (.if_icmp .eq 23, 3) := by decide +kernel
theorem dX9_isUnder_9 : decode cX9_isUnder 9 = .ok (.iload_n 1, 1) := by decide +kernel
theorem dX9_isUnder_10 : decode cX9_isUnder 10 = .ok (.iconst 1, 1) := by decide +kernel
theorem dX9_isUnder_11 : decode cX9_isUnder 11 = .ok (.if_icmp .ne 8, 3) := by decide +kernel
theorem dX9_isUnder_14 : decode cX9_isUnder 14 = .ok (.iload_n 0, 1) := by decide +kernel
theorem dX9_isUnder_15 : decode cX9_isUnder 15 = .ok (.iconst 3, 1) := by decide +kernel
theorem dX9_isUnder_16 : decode cX9_isUnder 16 = .ok (.if_icmp .eq 13, 3) := by decide +kernel
theorem dX9_isUnder_19 : decode cX9_isUnder 19 = .ok (.iload_n 1, 1) := by decide +kernel
theorem dX9_isUnder_20 : decode cX9_isUnder 20 = .ok (.iconst 2, 1) := by decide +kernel
theorem dX9_isUnder_21 : decode cX9_isUnder 21 = .ok (.if_icmp .ne 12, 3) := by decide +kernel
theorem dX9_isUnder_24 : decode cX9_isUnder 24 = .ok (.iload_n 0, 1) := by decide +kernel
theorem dX9_isUnder_25 : decode cX9_isUnder 25 = .ok (.iconst 4, 1) := by decide +kernel
theorem dX9_isUnder_26 : decode cX9_isUnder 26 = .ok (.if_icmp .ne 7, 3) := by decide +kernel
theorem dX9_isUnder_29 : decode cX9_isUnder 29 = .ok (.iconst 1, 1) := by decide +kernel
theorem dX9_isUnder_30 : decode cX9_isUnder 30 = .ok (.goto 4, 3) := by decide +kernel
theorem dX9_isUnder_33 : decode cX9_isUnder 33 = .ok (.iconst 0, 1) := by decide +kernel
theorem dX9_isUnder_34 : decode cX9_isUnder 34 = .ok (.ireturn, 1) := by decide +kernel
theorem dX9_taken_0 : decode cX9_taken 0 = .ok (.iload_n 1, 1) := by decide +kernel
theorem dX9_taken_1 : decode cX9_taken 1 = .ok (.invokestatic 340, 3) := by decide +kernel
theorem dX9_taken_4 : decode cX9_taken 4 = .ok (.ifCond .eq 23, 3) := by decide +kernel
theorem dX9_taken_7 : decode cX9_taken 7 = .ok (.iload_n 2, 1) := by decide +kernel
theorem dX9_taken_8 : decode cX9_taken 8 = .ok (.iconst 0, 1) := by decide +kernel
theorem dX9_taken_9 : decode cX9_taken 9 = .ok (.iconst 5, 1) := by decide +kernel
theorem dX9_taken_10 : decode cX9_taken 10 = .ok (.invokestatic 109, 3) := by decide +kernel
theorem dX9_taken_13 : decode cX9_taken 13 = .ok (.ifCond .ne 16, 3) := by decide +kernel
theorem dX9_taken_16 : decode cX9_taken 16 = .ok (.iload_n 2, 1) := by decide +kernel
theorem dX9_taken_17 : decode cX9_taken 17 = .ok (.bipush 10, 2) := by decide +kernel
theorem dX9_taken_19 : decode cX9_taken 19 = .ok (.bipush 13, 2) := by decide +kernel
theorem dX9_taken_21 : decode cX9_taken 21 = .ok (.invokestatic 109, 3) := by decide +kernel
theorem dX9_taken_24 : decode cX9_taken 24 = .ok (.ifCond .ne 5, 3) := by decide +kernel
theorem dX9_taken_27 : decode cX9_taken 27 = .ok (.iconst (-1), 1) := by decide +kernel
theorem dX9_taken_28 : decode cX9_taken 28 = .ok (.ireturn, 1) := by decide +kernel
theorem dX9_taken_29 : decode cX9_taken 29 = .ok (.aload_n 0, 1) := by decide +kernel
theorem dX9_taken_30 : decode cX9_taken 30 = .ok (.iload_n 1, 1) := by decide +kernel
theorem dX9_taken_31 : decode cX9_taken 31 = .ok (.invokevirtual 349, 3) := by decide +kernel
theorem dX9_taken_34 : decode cX9_taken 34 = .ok (.istore_n 3, 1) := by decide +kernel
theorem dX9_taken_35 : decode cX9_taken 35 = .ok (.iload_n 3, 1) := by decide +kernel
theorem dX9_taken_36 : decode cX9_taken 36 = .ok (.ifCond .ge 6, 3) := by decide +kernel
theorem dX9_taken_39 : decode cX9_taken 39 = .ok (.bipush (-11), 2) := by decide +kernel
theorem dX9_taken_41 : decode cX9_taken 41 = .ok (.ireturn, 1) := by decide +kernel
theorem dX9_taken_42 : decode cX9_taken 42 = .ok (.iload_n 3, 1) := by decide +kernel
theorem dX9_taken_43 : decode cX9_taken 43 = .ok (.bipush 9, 2) := by decide +kernel
theorem dX9_taken_45 : decode cX9_taken 45 = .ok (.if_icmp .ne 28, 3) := by decide +kernel
theorem dX9_taken_48 : decode cX9_taken 48 = .ok (.iload_n 2, 1) := by decide +kernel
theorem dX9_taken_49 : decode cX9_taken 49 = .ok (.bipush 10, 2) := by decide +kernel
theorem dX9_taken_51 : decode cX9_taken 51 = .ok (.aload_n 0, 1) := by decide +kernel
theorem dX9_taken_52 : decode cX9_taken 52 = .ok (.getfield 91, 3) := by decide +kernel
theorem dX9_taken_55 : decode cX9_taken 55 = .ok (.iload_n 1, 1) := by decide +kernel
theorem dX9_taken_56 : decode cX9_taken 56 = .ok (.iaload, 1) := by decide +kernel
theorem dX9_taken_57 : decode cX9_taken 57 = .ok (.iadd, 1) := by decide +kernel
theorem dX9_taken_58 : decode cX9_taken 58 = .ok (.if_icmp .ne 12, 3) := by decide +kernel
theorem dX9_taken_61 : decode cX9_taken 61 = .ok (.aload_n 0, 1) := by decide +kernel
theorem dX9_taken_62 : decode cX9_taken 62 = .ok (.getfield 94, 3) := by decide +kernel
theorem dX9_taken_65 : decode cX9_taken 65 = .ok (.iload_n 1, 1) := by decide +kernel
theorem dX9_taken_66 : decode cX9_taken 66 = .ok (.iaload, 1) := by decide +kernel
theorem dX9_taken_67 : decode cX9_taken 67 = .ok (.goto 5, 3) := by decide +kernel
theorem dX9_taken_70 : decode cX9_taken 70 = .ok (.bipush (-13), 2) := by decide +kernel
theorem dX9_taken_72 : decode cX9_taken 72 = .ok (.ireturn, 1) := by decide +kernel
theorem dX9_taken_73 : decode cX9_taken 73 = .ok (.iload_n 2, 1) := by decide +kernel
theorem dX9_taken_74 : decode cX9_taken 74 = .ok (.bipush 10, 2) := by decide +kernel
theorem dX9_taken_76 : decode cX9_taken 76 = .ok (.if_icmp .ge 20, 3) := by decide +kernel
theorem dX9_taken_79 : decode cX9_taken 79 = .ok (.iload_n 3, 1) := by decide +kernel
theorem dX9_taken_80 : decode cX9_taken 80 = .ok (.iload_n 2, 1) := by decide +kernel
theorem dX9_taken_81 : decode cX9_taken 81 = .ok (.invokestatic 352, 3) := by decide +kernel
theorem dX9_taken_84 : decode cX9_taken 84 = .ok (.ifCond .eq 12, 3) := by decide +kernel
theorem dX9_taken_87 : decode cX9_taken 87 = .ok (.aload_n 0, 1) := by decide +kernel
theorem dX9_taken_88 : decode cX9_taken 88 = .ok (.getfield 91, 3) := by decide +kernel
theorem dX9_taken_91 : decode cX9_taken 91 = .ok (.iload_n 1, 1) := by decide +kernel
theorem dX9_taken_92 : decode cX9_taken 92 = .ok (.iaload, 1) := by decide +kernel
theorem dX9_taken_93 : decode cX9_taken 93 = .ok (.goto 5, 3) := by decide +kernel
theorem dX9_taken_96 : decode cX9_taken 96 = .ok (.bipush (-13), 2) := by decide +kernel
theorem dX9_taken_98 : decode cX9_taken 98 = .ok (.ireturn, 1) := by decide +kernel
theorem dX9_ran_0 : decode cX9_ran 0 = .ok (.aload_n 0, 1) := by decide +kernel
theorem dX9_ran_1 : decode cX9_ran 1 = .ok (.getfield 355, 3) := by decide +kernel
theorem dX9_ran_4 : decode cX9_ran 4 = .ok (.bipush 30, 2) := by decide +kernel
theorem dX9_ran_6 : decode cX9_ran 6 = .ok (.if_icmp .ge 23, 3) := by decide +kernel
theorem dX9_ran_9 : decode cX9_ran 9 = .ok (.aload_n 0, 1) := by decide +kernel
theorem dX9_ran_10 : decode cX9_ran 10 = .ok (.getfield 97, 3) := by decide +kernel
theorem dX9_ran_13 : decode cX9_ran 13 = .ok (.aload_n 0, 1) := by decide +kernel
theorem dX9_ran_14 : decode cX9_ran 14 = .ok (.getfield 355, 3) := by decide +kernel
theorem dX9_ran_17 : decode cX9_ran 17 = .ok (.iload_n 1, 1) := by decide +kernel
theorem dX9_ran_18 : decode cX9_ran 18 = .ok (.iastore, 1) := by decide +kernel
theorem dX9_ran_19 : decode cX9_ran 19 = .ok (.aload_n 0, 1) := by decide +kernel
theorem dX9_ran_20 : decode cX9_ran 20 = .ok (.dup, 1) := by decide +kernel
theorem dX9_ran_21 : decode cX9_ran 21 = .ok (.getfield 355, 3) := by decide +kernel
theorem dX9_ran_24 : decode cX9_ran 24 = .ok (.iconst 1, 1) := by decide +kernel
theorem dX9_ran_25 : decode cX9_ran 25 = .ok (.iadd, 1) := by decide +kernel
theorem dX9_ran_26 : decode cX9_ran 26 = .ok (.putfield 355, 3) := by decide +kernel
theorem dX9_ran_29 : decode cX9_ran 29 = .ok (.return_, 1) := by decide +kernel
theorem dX9_plainHits_0 : decode cX9_plainHits 0 = .ok (.aload_n 0, 1) := by decide +kernel
theorem dX9_plainHits_1 : decode cX9_plainHits 1 = .ok (.bipush 10, 2) := by decide +kernel
theorem dX9_plainHits_3 : decode cX9_plainHits 3 = .ok (.invokevirtual 358, 3) := by decide +kernel
theorem dX9_plainHits_6 : decode cX9_plainHits 6 = .ok (.iload_n 1, 1) := by decide +kernel
theorem dX9_plainHits_7 : decode cX9_plainHits 7 = .ok (.aload_n 0, 1) := by decide +kernel
theorem dX9_plainHits_8 : decode cX9_plainHits 8 = .ok (.getfield 361, 3) := by decide +kernel
theorem dX9_plainHits_11 : decode cX9_plainHits 11 = .ok (.iadd, 1) := by decide +kernel
theorem dX9_plainHits_12 : decode cX9_plainHits 12 = .ok (.ireturn, 1) := by decide +kernel
theorem dX9_glassHits_0 : decode cX9_glassHits 0 = .ok (.aload_n 0, 1) := by decide +kernel
theorem dX9_glassHits_1 : decode cX9_glassHits 1 = .ok (.bipush 30, 2) := by decide +kernel
theorem dX9_glassHits_3 : decode cX9_glassHits 3 = .ok (.invokevirtual 358, 3) := by decide +kernel
theorem dX9_glassHits_6 : decode cX9_glassHits 6 = .ok (.aload_n 0, 1) := by decide +kernel
theorem dX9_glassHits_7 : decode cX9_glassHits 7 = .ok (.iload_n 1, 1) := by decide +kernel
theorem dX9_glassHits_8 : decode cX9_glassHits 8 = .ok (.invokevirtual 364, 3) := by decide +kernel
theorem dX9_glassHits_11 : decode cX9_glassHits 11 = .ok (.iconst 3, 1) := by decide +kernel
theorem dX9_glassHits_12 : decode cX9_glassHits 12 = .ok (.imul, 1) := by decide +kernel
theorem dX9_glassHits_13 : decode cX9_glassHits 13 = .ok (.ireturn, 1) := by decide +kernel
theorem dX9_hitsIt_0 : decode cX9_hitsIt 0 = .ok (.aload_n 0, 1) := by decide +kernel
theorem dX9_hitsIt_1 : decode cX9_hitsIt 1 = .ok (.getfield 367, 3) := by decide +kernel
theorem dX9_hitsIt_4 : decode cX9_hitsIt 4 = .ok (.tableswitch 65 2 4 #[28, 34, 48], 28) := by decide +kernel
theorem dX9_hitsIt_32 : decode cX9_hitsIt 32 = .ok (.aload_n 0, 1) := by decide +kernel
theorem dX9_hitsIt_33 : decode cX9_hitsIt 33 = .ok (.iload_n 1, 1) := by decide +kernel
theorem dX9_hitsIt_34 : decode cX9_hitsIt 34 = .ok (.invokevirtual 370, 3) := by decide +kernel
theorem dX9_hitsIt_37 : decode cX9_hitsIt 37 = .ok (.ireturn, 1) := by decide +kernel
theorem dX9_hitsIt_38 : decode cX9_hitsIt 38 = .ok (.aload_n 0, 1) := by decide +kernel
theorem dX9_hitsIt_39 : decode cX9_hitsIt 39 = .ok (.bipush 40, 2) := by decide +kernel
theorem dX9_hitsIt_41 : decode cX9_hitsIt 41 = .ok (.invokevirtual 358, 3) := by decide +kernel
theorem dX9_hitsIt_44 : decode cX9_hitsIt 44 = .ok (.iconst 0, 1) := by decide +kernel
theorem dX9_hitsIt_45 : decode cX9_hitsIt 45 = .ok (.aload_n 0, 1) := by decide +kernel
theorem dX9_hitsIt_46 : decode cX9_hitsIt 46 = .ok (.iload_n 1, 1) := by decide +kernel
theorem dX9_hitsIt_47 : decode cX9_hitsIt 47 = .ok (.invokevirtual 364, 3) := by decide +kernel
theorem dX9_hitsIt_50 : decode cX9_hitsIt 50 = .ok (.isub, 1) := by decide +kernel
theorem dX9_hitsIt_51 : decode cX9_hitsIt 51 = .ok (.ireturn, 1) := by decide +kernel
theorem dX9_hitsIt_52 : decode cX9_hitsIt 52 = .ok (.aload_n 0, 1) := by decide +kernel
theorem dX9_hitsIt_53 : decode cX9_hitsIt 53 = .ok (.bipush 51, 2) := by decide +kernel
theorem dX9_hitsIt_55 : decode cX9_hitsIt 55 = .ok (.invokevirtual 358, 3) := by decide +kernel
theorem dX9_hitsIt_58 : decode cX9_hitsIt 58 = .ok (.aload_n 0, 1) := by decide +kernel
theorem dX9_hitsIt_59 : decode cX9_hitsIt 59 = .ok (.iload_n 1, 1) := by decide +kernel
theorem dX9_hitsIt_60 : decode cX9_hitsIt 60 = .ok (.invokevirtual 370, 3) := by decide +kernel
theorem dX9_hitsIt_63 : decode cX9_hitsIt 63 = .ok (.aload_n 0, 1) := by decide +kernel
theorem dX9_hitsIt_64 : decode cX9_hitsIt 64 = .ok (.getfield 361, 3) := by decide +kernel
theorem dX9_hitsIt_67 : decode cX9_hitsIt 67 = .ok (.isub, 1) := by decide +kernel
theorem dX9_hitsIt_68 : decode cX9_hitsIt 68 = .ok (.ireturn, 1) := by decide +kernel
theorem dX9_hitsIt_69 : decode cX9_hitsIt 69 = .ok (.aload_n 0, 1) := by decide +kernel
theorem dX9_hitsIt_70 : decode cX9_hitsIt 70 = .ok (.iload_n 1, 1) := by decide +kernel
theorem dX9_hitsIt_71 : decode cX9_hitsIt 71 = .ok (.invokevirtual 364, 3) := by decide +kernel
theorem dX9_hitsIt_74 : decode cX9_hitsIt 74 = .ok (.ireturn, 1) := by decide +kernel
theorem dX9_plainPays_0 : decode cX9_plainPays 0 = .ok (.aload_n 0, 1) := by decide +kernel
theorem dX9_plainPays_1 : decode cX9_plainPays 1 = .ok (.bipush 11, 2) := by decide +kernel
theorem dX9_plainPays_3 : decode cX9_plainPays 3 = .ok (.invokevirtual 358, 3) := by decide +kernel
theorem dX9_plainPays_6 : decode cX9_plainPays 6 = .ok (.aload_n 0, 1) := by decide +kernel
theorem dX9_plainPays_7 : decode cX9_plainPays 7 = .ok (.iload_n 1, 1) := by decide +kernel
theorem dX9_plainPays_8 : decode cX9_plainPays 8 = .ok (.invokevirtual 373, 3) := by decide +kernel
theorem dX9_plainPays_11 : decode cX9_plainPays 11 = .ok (.iconst 2, 1) := by decide +kernel
theorem dX9_plainPays_12 : decode cX9_plainPays 12 = .ok (.imul, 1) := by decide +kernel
theorem dX9_plainPays_13 : decode cX9_plainPays 13 = .ok (.ireturn, 1) := by decide +kernel
theorem dX9_bumpPays_0 : decode cX9_bumpPays 0 = .ok (.aload_n 0, 1) := by decide +kernel
theorem dX9_bumpPays_1 : decode cX9_bumpPays 1 = .ok (.bipush 20, 2) := by decide +kernel
theorem dX9_bumpPays_3 : decode cX9_bumpPays 3 = .ok (.invokevirtual 358, 3) := by decide +kernel
theorem dX9_bumpPays_6 : decode cX9_bumpPays 6 = .ok (.aload_n 0, 1) := by decide +kernel
theorem dX9_bumpPays_7 : decode cX9_bumpPays 7 = .ok (.iload_n 1, 1) := by decide +kernel
theorem dX9_bumpPays_8 : decode cX9_bumpPays 8 = .ok (.invokevirtual 376, 3) := by decide +kernel
theorem dX9_bumpPays_11 : decode cX9_bumpPays 11 = .ok (.aload_n 0, 1) := by decide +kernel
theorem dX9_bumpPays_12 : decode cX9_bumpPays 12 = .ok (.getfield 379, 3) := by decide +kernel
theorem dX9_bumpPays_15 : decode cX9_bumpPays 15 = .ok (.isub, 1) := by decide +kernel
theorem dX9_bumpPays_16 : decode cX9_bumpPays 16 = .ok (.ireturn, 1) := by decide +kernel
theorem dX9_paysIt_0 : decode cX9_paysIt 0 = .ok (.aload_n 0, 1) := by decide +kernel
theorem dX9_paysIt_1 : decode cX9_paysIt 1 = .ok (.getfield 367, 3) := by decide +kernel
theorem dX9_paysIt_4 : decode cX9_paysIt 4 = .ok (.iconst 3, 1) := by decide +kernel
theorem dX9_paysIt_5 : decode cX9_paysIt 5 = .ok (.if_icmp .ne 26, 3) := by decide +kernel
theorem dX9_paysIt_8 : decode cX9_paysIt 8 = .ok (.aload_n 0, 1) := by decide +kernel
theorem dX9_paysIt_9 : decode cX9_paysIt 9 = .ok (.bipush 41, 2) := by decide +kernel
theorem dX9_paysIt_11 : decode cX9_paysIt 11 = .ok (.invokevirtual 358, 3) := by decide +kernel
theorem dX9_paysIt_14 : decode cX9_paysIt 14 = .ok (.aload_n 0, 1) := by decide +kernel
theorem dX9_paysIt_15 : decode cX9_paysIt 15 = .ok (.iload_n 1, 1) := by decide +kernel
theorem dX9_paysIt_16 : decode cX9_paysIt 16 = .ok (.invokevirtual 382, 3) := by decide +kernel
theorem dX9_paysIt_19 : decode cX9_paysIt 19 = .ok (.istore_n 2, 1) := by decide +kernel
theorem dX9_paysIt_20 : decode cX9_paysIt 20 = .ok (.iload_n 2, 1) := by decide +kernel
theorem dX9_paysIt_21 : decode cX9_paysIt 21 = .ok (.aload_n 0, 1) := by decide +kernel
theorem dX9_paysIt_22 : decode cX9_paysIt 22 = .ok (.aload_n 0, 1) := by decide +kernel
theorem dX9_paysIt_23 : decode cX9_paysIt 23 = .ok (.getfield 361, 3) := by decide +kernel
theorem dX9_paysIt_26 : decode cX9_paysIt 26 = .ok (.invokevirtual 373, 3) := by decide +kernel
theorem dX9_paysIt_29 : decode cX9_paysIt 29 = .ok (.iadd, 1) := by decide +kernel
theorem dX9_paysIt_30 : decode cX9_paysIt 30 = .ok (.ireturn, 1) := by decide +kernel
theorem dX9_paysIt_31 : decode cX9_paysIt 31 = .ok (.aload_n 0, 1) := by decide +kernel
theorem dX9_paysIt_32 : decode cX9_paysIt 32 = .ok (.getfield 367, 3) := by decide +kernel
theorem dX9_paysIt_35 : decode cX9_paysIt 35 = .ok (.iconst 1, 1) := by decide +kernel
theorem dX9_paysIt_36 : decode cX9_paysIt 36 = .ok (.if_icmp .ne 11, 3) := by decide +kernel
theorem dX9_paysIt_39 : decode cX9_paysIt 39 = .ok (.aload_n 0, 1) := by decide +kernel
theorem dX9_paysIt_40 : decode cX9_paysIt 40 = .ok (.iload_n 1, 1) := by decide +kernel
theorem dX9_paysIt_41 : decode cX9_paysIt 41 = .ok (.invokevirtual 382, 3) := by decide +kernel
theorem dX9_paysIt_44 : decode cX9_paysIt 44 = .ok (.goto 8, 3) := by decide +kernel
theorem dX9_paysIt_47 : decode cX9_paysIt 47 = .ok (.aload_n 0, 1) := by decide +kernel
theorem dX9_paysIt_48 : decode cX9_paysIt 48 = .ok (.iload_n 1, 1) := by decide +kernel
theorem dX9_paysIt_49 : decode cX9_paysIt 49 = .ok (.invokevirtual 376, 3) := by decide +kernel
theorem dX9_paysIt_52 : decode cX9_paysIt 52 = .ok (.ireturn, 1) := by decide +kernel
theorem dX9_plainShares_0 : decode cX9_plainShares 0 = .ok (.aload_n 0, 1) := by decide +kernel
theorem dX9_plainShares_1 : decode cX9_plainShares 1 = .ok (.bipush 12, 2) := by decide +kernel
theorem dX9_plainShares_3 : decode cX9_plainShares 3 = .ok (.invokevirtual 358, 3) := by decide +kernel
theorem dX9_plainShares_6 : decode cX9_plainShares 6 = .ok (.aload_n 0, 1) := by decide +kernel
theorem dX9_plainShares_7 : decode cX9_plainShares 7 = .ok (.getfield 379, 3) := by decide +kernel
theorem dX9_plainShares_10 : decode cX9_plainShares 10 = .ok (.aload_n 0, 1) := by decide +kernel
theorem dX9_plainShares_11 : decode cX9_plainShares 11 = .ok (.getfield 361, 3) := by decide +kernel
theorem dX9_plainShares_14 : decode cX9_plainShares 14 = .ok (.if_icmp .ne 10, 3) := by decide +kernel
theorem dX9_plainShares_17 : decode cX9_plainShares 17 = .ok (.aload_n 0, 1) := by decide +kernel
theorem dX9_plainShares_18 : decode cX9_plainShares 18 = .ok (.iconst 1, 1) := by decide +kernel
theorem dX9_plainShares_19 : decode cX9_plainShares 19 = .ok (.putfield 385, 3) := by decide +kernel
theorem dX9_plainShares_22 : decode cX9_plainShares 22 = .ok (.iconst 0, 1) := by decide +kernel
theorem dX9_plainShares_23 : decode cX9_plainShares 23 = .ok (.ireturn, 1) := by decide +kernel
theorem dX9_plainShares_24 : decode cX9_plainShares 24 = .ok (.iload_n 1, 1) := by decide +kernel
theorem dX9_plainShares_25 : decode cX9_plainShares 25 = .ok (.aload_n 0, 1) := by decide +kernel
theorem dX9_plainShares_26 : decode cX9_plainShares 26 = .ok (.getfield 379, 3) := by decide +kernel
theorem dX9_plainShares_29 : decode cX9_plainShares 29 = .ok (.aload_n 0, 1) := by decide +kernel
theorem dX9_plainShares_30 : decode cX9_plainShares 30 = .ok (.getfield 361, 3) := by decide +kernel
theorem dX9_plainShares_33 : decode cX9_plainShares 33 = .ok (.isub, 1) := by decide +kernel
theorem dX9_plainShares_34 : decode cX9_plainShares 34 = .ok (.idiv, 1) := by decide +kernel
theorem dX9_plainShares_35 : decode cX9_plainShares 35 = .ok (.ireturn, 1) := by decide +kernel
theorem dX9_sharesIt_0 : decode cX9_sharesIt 0 = .ok (.aload_n 0, 1) := by decide +kernel
theorem dX9_sharesIt_1 : decode cX9_sharesIt 1 = .ok (.getfield 367, 3) := by decide +kernel
theorem dX9_sharesIt_4 : decode cX9_sharesIt 4 = .ok (.iconst 4, 1) := by decide +kernel
theorem dX9_sharesIt_5 : decode cX9_sharesIt 5 = .ok (.if_icmp .ne 19, 3) := by decide +kernel
theorem dX9_sharesIt_8 : decode cX9_sharesIt 8 = .ok (.aload_n 0, 1) := by decide +kernel
theorem dX9_sharesIt_9 : decode cX9_sharesIt 9 = .ok (.bipush 50, 2) := by decide +kernel
theorem dX9_sharesIt_11 : decode cX9_sharesIt 11 = .ok (.invokevirtual 358, 3) := by decide +kernel
theorem dX9_sharesIt_14 : decode cX9_sharesIt 14 = .ok (.aload_n 0, 1) := by decide +kernel
theorem dX9_sharesIt_15 : decode cX9_sharesIt 15 = .ok (.iload_n 1, 1) := by decide +kernel
theorem dX9_sharesIt_16 : decode cX9_sharesIt 16 = .ok (.iconst 2, 1) := by decide +kernel
theorem dX9_sharesIt_17 : decode cX9_sharesIt 17 = .ok (.iadd, 1) := by decide +kernel
theorem dX9_sharesIt_18 : decode cX9_sharesIt 18 = .ok (.invokevirtual 388, 3) := by decide +kernel
theorem dX9_sharesIt_21 : decode cX9_sharesIt 21 = .ok (.iconst 1, 1) := by decide +kernel
theorem dX9_sharesIt_22 : decode cX9_sharesIt 22 = .ok (.ixor, 1) := by decide +kernel
theorem dX9_sharesIt_23 : decode cX9_sharesIt 23 = .ok (.ireturn, 1) := by decide +kernel
theorem dX9_sharesIt_24 : decode cX9_sharesIt 24 = .ok (.aload_n 0, 1) := by decide +kernel
theorem dX9_sharesIt_25 : decode cX9_sharesIt 25 = .ok (.getfield 367, 3) := by decide +kernel
theorem dX9_sharesIt_28 : decode cX9_sharesIt 28 = .ok (.iconst 5, 1) := by decide +kernel
theorem dX9_sharesIt_29 : decode cX9_sharesIt 29 = .ok (.if_icmp .ne 37, 3) := by decide +kernel
theorem dX9_sharesIt_32 : decode cX9_sharesIt 32 = .ok (.aload_n 0, 1) := by decide +kernel
theorem dX9_sharesIt_33 : decode cX9_sharesIt 33 = .ok (.bipush 61, 2) := by decide +kernel
theorem dX9_sharesIt_35 : decode cX9_sharesIt 35 = .ok (.invokevirtual 358, 3) := by decide +kernel
theorem dX9_sharesIt_38 : decode cX9_sharesIt 38 = .ok (.aload_n 0, 1) := by decide +kernel
theorem dX9_sharesIt_39 : decode cX9_sharesIt 39 = .ok (.iload_n 1, 1) := by decide +kernel
theorem dX9_sharesIt_40 : decode cX9_sharesIt 40 = .ok (.invokevirtual 388, 3) := by decide +kernel
theorem dX9_sharesIt_43 : decode cX9_sharesIt 43 = .ok (.istore_n 2, 1) := by decide +kernel
theorem dX9_sharesIt_44 : decode cX9_sharesIt 44 = .ok (.aload_n 0, 1) := by decide +kernel
theorem dX9_sharesIt_45 : decode cX9_sharesIt 45 = .ok (.getfield 385, 3) := by decide +kernel
theorem dX9_sharesIt_48 : decode cX9_sharesIt 48 = .ok (.ifCond .eq 7, 3) := by decide +kernel
theorem dX9_sharesIt_51 : decode cX9_sharesIt 51 = .ok (.iconst 0, 1) := by decide +kernel
theorem dX9_sharesIt_52 : decode cX9_sharesIt 52 = .ok (.goto 13, 3) := by decide +kernel
theorem dX9_sharesIt_55 : decode cX9_sharesIt 55 = .ok (.iload_n 2, 1) := by decide +kernel
theorem dX9_sharesIt_56 : decode cX9_sharesIt 56 = .ok (.aload_n 0, 1) := by decide +kernel
theorem dX9_sharesIt_57 : decode cX9_sharesIt 57 = .ok (.aload_n 0, 1) := by decide +kernel
theorem dX9_sharesIt_58 : decode cX9_sharesIt 58 = .ok (.getfield 379, 3) := by decide +kernel
theorem dX9_sharesIt_61 : decode cX9_sharesIt 61 = .ok (.invokevirtual 373, 3) := by decide +kernel
theorem dX9_sharesIt_64 : decode cX9_sharesIt 64 = .ok (.iadd, 1) := by decide +kernel
theorem dX9_sharesIt_65 : decode cX9_sharesIt 65 = .ok (.ireturn, 1) := by decide +kernel
theorem dX9_sharesIt_66 : decode cX9_sharesIt 66 = .ok (.aload_n 0, 1) := by decide +kernel
theorem dX9_sharesIt_67 : decode cX9_sharesIt 67 = .ok (.iload_n 1, 1) := by decide +kernel
theorem dX9_sharesIt_68 : decode cX9_sharesIt 68 = .ok (.invokevirtual 388, 3) := by decide +kernel
theorem dX9_sharesIt_71 : decode cX9_sharesIt 71 = .ok (.ireturn, 1) := by decide +kernel
theorem dX9_plainTells_0 : decode cX9_plainTells 0 = .ok (.aload_n 0, 1) := by decide +kernel
theorem dX9_plainTells_1 : decode cX9_plainTells 1 = .ok (.bipush 13, 2) := by decide +kernel
theorem dX9_plainTells_3 : decode cX9_plainTells 3 = .ok (.invokevirtual 358, 3) := by decide +kernel
theorem dX9_plainTells_6 : decode cX9_plainTells 6 = .ok (.aload_n 0, 1) := by decide +kernel
theorem dX9_plainTells_7 : decode cX9_plainTells 7 = .ok (.iload_n 1, 1) := by decide +kernel
theorem dX9_plainTells_8 : decode cX9_plainTells 8 = .ok (.invokevirtual 391, 3) := by decide +kernel
theorem dX9_plainTells_11 : decode cX9_plainTells 11 = .ok (.aload_n 0, 1) := by decide +kernel
theorem dX9_plainTells_12 : decode cX9_plainTells 12 = .ok (.getfield 379, 3) := by decide +kernel
theorem dX9_plainTells_15 : decode cX9_plainTells 15 = .ok (.ixor, 1) := by decide +kernel
theorem dX9_plainTells_16 : decode cX9_plainTells 16 = .ok (.ireturn, 1) := by decide +kernel
theorem dX9_tellsIt_0 : decode cX9_tellsIt 0 = .ok (.aload_n 0, 1) := by decide +kernel
theorem dX9_tellsIt_1 : decode cX9_tellsIt 1 = .ok (.getfield 367, 3) := by decide +kernel
theorem dX9_tellsIt_4 : decode cX9_tellsIt 4 = .ok (.iconst 2, 1) := by decide +kernel
theorem dX9_tellsIt_5 : decode cX9_tellsIt 5 = .ok (.if_icmp .eq 11, 3) := by decide +kernel
theorem dX9_tellsIt_8 : decode cX9_tellsIt 8 = .ok (.aload_n 0, 1) := by decide +kernel
theorem dX9_tellsIt_9 : decode cX9_tellsIt 9 = .ok (.getfield 367, 3) := by decide +kernel
theorem dX9_tellsIt_12 : decode cX9_tellsIt 12 = .ok (.iconst 4, 1) := by decide +kernel
theorem dX9_tellsIt_13 : decode cX9_tellsIt 13 = .ok (.if_icmp .ne 26, 3) := by decide +kernel
theorem dX9_tellsIt_16 : decode cX9_tellsIt 16 = .ok (.aload_n 0, 1) := by decide +kernel
theorem dX9_tellsIt_17 : decode cX9_tellsIt 17 = .ok (.bipush 31, 2) := by decide +kernel
theorem dX9_tellsIt_19 : decode cX9_tellsIt 19 = .ok (.invokevirtual 358, 3) := by decide +kernel
theorem dX9_tellsIt_22 : decode cX9_tellsIt 22 = .ok (.aload_n 0, 1) := by decide +kernel
theorem dX9_tellsIt_23 : decode cX9_tellsIt 23 = .ok (.iload_n 1, 1) := by decide +kernel
theorem dX9_tellsIt_24 : decode cX9_tellsIt 24 = .ok (.invokevirtual 394, 3) := by decide +kernel
theorem dX9_tellsIt_27 : decode cX9_tellsIt 27 = .ok (.istore_n 2, 1) := by decide +kernel
theorem dX9_tellsIt_28 : decode cX9_tellsIt 28 = .ok (.iload_n 2, 1) := by decide +kernel
theorem dX9_tellsIt_29 : decode cX9_tellsIt 29 = .ok (.aload_n 0, 1) := by decide +kernel
theorem dX9_tellsIt_30 : decode cX9_tellsIt 30 = .ok (.aload_n 0, 1) := by decide +kernel
theorem dX9_tellsIt_31 : decode cX9_tellsIt 31 = .ok (.getfield 361, 3) := by decide +kernel
theorem dX9_tellsIt_34 : decode cX9_tellsIt 34 = .ok (.invokevirtual 397, 3) := by decide +kernel
theorem dX9_tellsIt_37 : decode cX9_tellsIt 37 = .ok (.iadd, 1) := by decide +kernel
theorem dX9_tellsIt_38 : decode cX9_tellsIt 38 = .ok (.ireturn, 1) := by decide +kernel
theorem dX9_tellsIt_39 : decode cX9_tellsIt 39 = .ok (.aload_n 0, 1) := by decide +kernel
theorem dX9_tellsIt_40 : decode cX9_tellsIt 40 = .ok (.getfield 367, 3) := by decide +kernel
theorem dX9_tellsIt_43 : decode cX9_tellsIt 43 = .ok (.iconst 5, 1) := by decide +kernel
theorem dX9_tellsIt_44 : decode cX9_tellsIt 44 = .ok (.if_icmp .ne 17, 3) := by decide +kernel
theorem dX9_tellsIt_47 : decode cX9_tellsIt 47 = .ok (.aload_n 0, 1) := by decide +kernel
theorem dX9_tellsIt_48 : decode cX9_tellsIt 48 = .ok (.bipush 60, 2) := by decide +kernel
theorem dX9_tellsIt_50 : decode cX9_tellsIt 50 = .ok (.invokevirtual 358, 3) := by decide +kernel
theorem dX9_tellsIt_53 : decode cX9_tellsIt 53 = .ok (.aload_n 0, 1) := by decide +kernel
theorem dX9_tellsIt_54 : decode cX9_tellsIt 54 = .ok (.iload_n 1, 1) := by decide +kernel
theorem dX9_tellsIt_55 : decode cX9_tellsIt 55 = .ok (.invokevirtual 394, 3) := by decide +kernel
theorem dX9_tellsIt_58 : decode cX9_tellsIt 58 = .ok (.iconst 2, 1) := by decide +kernel
theorem dX9_tellsIt_59 : decode cX9_tellsIt 59 = .ok (.imul, 1) := by decide +kernel
theorem dX9_tellsIt_60 : decode cX9_tellsIt 60 = .ok (.ireturn, 1) := by decide +kernel
theorem dX9_tellsIt_61 : decode cX9_tellsIt 61 = .ok (.aload_n 0, 1) := by decide +kernel
theorem dX9_tellsIt_62 : decode cX9_tellsIt 62 = .ok (.iload_n 1, 1) := by decide +kernel
theorem dX9_tellsIt_63 : decode cX9_tellsIt 63 = .ok (.invokevirtual 394, 3) := by decide +kernel
theorem dX9_tellsIt_66 : decode cX9_tellsIt 66 = .ok (.ireturn, 1) := by decide +kernel
theorem dX9_act_0 : decode cX9_act 0 = .ok (.aload_n 0, 1) := by decide +kernel
theorem dX9_act_1 : decode cX9_act 1 = .ok (.iconst 0, 1) := by decide +kernel
theorem dX9_act_2 : decode cX9_act 2 = .ok (.putfield 355, 3) := by decide +kernel
theorem dX9_act_5 : decode cX9_act 5 = .ok (.iload_n 1, 1) := by decide +kernel
theorem dX9_act_6 : decode cX9_act 6 = .ok (.invokestatic 340, 3) := by decide +kernel
theorem dX9_act_9 : decode cX9_act 9 = .ok (.ifCond .eq 11, 3) := by decide +kernel
theorem dX9_act_12 : decode cX9_act 12 = .ok (.aload_n 0, 1) := by decide +kernel
theorem dX9_act_13 : decode cX9_act 13 = .ok (.iload_n 1, 1) := by decide +kernel
theorem dX9_act_14 : decode cX9_act 14 = .ok (.invokevirtual 349, 3) := by decide +kernel
theorem dX9_act_17 : decode cX9_act 17 = .ok (.goto 4, 3) := by decide +kernel
theorem dX9_act_20 : decode cX9_act 20 = .ok (.iconst (-1), 1) := by decide +kernel
theorem dX9_act_21 : decode cX9_act 21 = .ok (.istore 4, 2) := by decide +kernel
theorem dX9_act_23 : decode cX9_act 23 = .ok (.iload_n 2, 1) := by decide +kernel
theorem dX9_act_24 : decode cX9_act 24 = .ok (.iconst 0, 1) := by decide +kernel
theorem dX9_act_25 : decode cX9_act 25 = .ok (.iconst 3, 1) := by decide +kernel
theorem dX9_act_26 : decode cX9_act 26 = .ok (.invokestatic 109, 3) := by decide +kernel
theorem dX9_act_29 : decode cX9_act 29 = .ok (.ifCond .eq 13, 3) := by decide +kernel
theorem dX9_act_32 : decode cX9_act 32 = .ok (.iload 4, 2) := by decide +kernel
theorem dX9_act_34 : decode cX9_act 34 = .ok (.iconst 0, 1) := by decide +kernel
theorem dX9_act_35 : decode cX9_act 35 = .ok (.iconst 5, 1) := by decide +kernel
theorem dX9_act_36 : decode cX9_act 36 = .ok (.invokestatic 109, 3) := by decide +kernel
theorem dX9_act_39 : decode cX9_act 39 = .ok (.ifCond .ne 5, 3) := by decide +kernel
theorem dX9_act_42 : decode cX9_act 42 = .ok (.iconst 0, 1) := by decide +kernel
theorem dX9_act_43 : decode cX9_act 43 = .ok (.ireturn, 1) := by decide +kernel
theorem dX9_act_44 : decode cX9_act 44 = .ok (.aload_n 0, 1) := by decide +kernel
theorem dX9_act_45 : decode cX9_act 45 = .ok (.iload 4, 2) := by decide +kernel
theorem dX9_act_47 : decode cX9_act 47 = .ok (.putfield 367, 3) := by decide +kernel
theorem dX9_act_50 : decode cX9_act 50 = .ok (.aload_n 0, 1) := by decide +kernel
theorem dX9_act_51 : decode cX9_act 51 = .ok (.aload_n 0, 1) := by decide +kernel
theorem dX9_act_52 : decode cX9_act 52 = .ok (.getfield 91, 3) := by decide +kernel
theorem dX9_act_55 : decode cX9_act 55 = .ok (.iload_n 1, 1) := by decide +kernel
theorem dX9_act_56 : decode cX9_act 56 = .ok (.iaload, 1) := by decide +kernel
theorem dX9_act_57 : decode cX9_act 57 = .ok (.putfield 361, 3) := by decide +kernel
theorem dX9_act_60 : decode cX9_act 60 = .ok (.aload_n 0, 1) := by decide +kernel
theorem dX9_act_61 : decode cX9_act 61 = .ok (.aload_n 0, 1) := by decide +kernel
theorem dX9_act_62 : decode cX9_act 62 = .ok (.aload_n 0, 1) := by decide +kernel
theorem dX9_act_63 : decode cX9_act 63 = .ok (.getfield 361, 3) := by decide +kernel
theorem dX9_act_66 : decode cX9_act 66 = .ok (.iconst 4, 1) := by decide +kernel
theorem dX9_act_67 : decode cX9_act 67 = .ok (.invokevirtual 235, 3) := by decide +kernel
theorem dX9_act_70 : decode cX9_act 70 = .ok (.putfield 379, 3) := by decide +kernel
theorem dX9_act_73 : decode cX9_act 73 = .ok (.aload_n 0, 1) := by decide +kernel
theorem dX9_act_74 : decode cX9_act 74 = .ok (.iconst 0, 1) := by decide +kernel
theorem dX9_act_75 : decode cX9_act 75 = .ok (.putfield 385, 3) := by decide +kernel
theorem dX9_act_78 : decode cX9_act 78 = .ok (.iload_n 2, 1) := by decide +kernel
theorem dX9_act_79 : decode cX9_act 79 = .ok (.ifCond .ne 11, 3) := by decide +kernel
theorem dX9_act_82 : decode cX9_act 82 = .ok (.aload_n 0, 1) := by decide +kernel
theorem dX9_act_83 : decode cX9_act 83 = .ok (.iload_n 3, 1) := by decide +kernel
theorem dX9_act_84 : decode cX9_act 84 = .ok (.invokevirtual 373, 3) := by decide +kernel
theorem dX9_act_87 : decode cX9_act 87 = .ok (.goto 34, 3) := by decide +kernel
theorem dX9_act_90 : decode cX9_act 90 = .ok (.iload_n 2, 1) := by decide +kernel
theorem dX9_act_91 : decode cX9_act 91 = .ok (.iconst 1, 1) := by decide +kernel
theorem dX9_act_92 : decode cX9_act 92 = .ok (.if_icmp .ne 11, 3) := by decide +kernel
theorem dX9_act_95 : decode cX9_act 95 = .ok (.aload_n 0, 1) := by decide +kernel
theorem dX9_act_96 : decode cX9_act 96 = .ok (.iload_n 3, 1) := by decide +kernel
theorem dX9_act_97 : decode cX9_act 97 = .ok (.invokevirtual 391, 3) := by decide +kernel
theorem dX9_act_100 : decode cX9_act 100 = .ok (.goto 21, 3) := by decide +kernel
theorem dX9_act_103 : decode cX9_act 103 = .ok (.iload_n 2, 1) := by decide +kernel
theorem dX9_act_104 : decode cX9_act 104 = .ok (.iconst 2, 1) := by decide +kernel
theorem dX9_act_105 : decode cX9_act 105 = .ok (.if_icmp .ne 11, 3) := by decide +kernel
theorem dX9_act_108 : decode cX9_act 108 = .ok (.aload_n 0, 1) := by decide +kernel
theorem dX9_act_109 : decode cX9_act 109 = .ok (.iload_n 3, 1) := by decide +kernel
theorem dX9_act_110 : decode cX9_act 110 = .ok (.invokevirtual 397, 3) := by decide +kernel
theorem dX9_act_113 : decode cX9_act 113 = .ok (.goto 8, 3) := by decide +kernel
theorem dX9_act_116 : decode cX9_act 116 = .ok (.aload_n 0, 1) := by decide +kernel
theorem dX9_act_117 : decode cX9_act 117 = .ok (.iload_n 3, 1) := by decide +kernel
theorem dX9_act_118 : decode cX9_act 118 = .ok (.invokevirtual 400, 3) := by decide +kernel
theorem dX9_act_121 : decode cX9_act 121 = .ok (.istore 5, 2) := by decide +kernel
theorem dX9_act_123 : decode cX9_act 123 = .ok (.aload_n 0, 1) := by decide +kernel
theorem dX9_act_124 : decode cX9_act 124 = .ok (.getfield 385, 3) := by decide +kernel
theorem dX9_act_127 : decode cX9_act 127 = .ok (.ifCond .eq 8, 3) := by decide +kernel
theorem dX9_act_130 : decode cX9_act 130 = .ok (.bipush (-15), 2) := by decide +kernel
theorem dX9_act_132 : decode cX9_act 132 = .ok (.goto 5, 3) := by decide +kernel
theorem dX9_act_135 : decode cX9_act 135 = .ok (.iload 5, 2) := by decide +kernel
theorem dX9_act_137 : decode cX9_act 137 = .ok (.ireturn, 1) := by decide +kernel
theorem dX9_trace_0 : decode cX9_trace 0 = .ok (.iload_n 1, 1) := by decide +kernel
theorem dX9_trace_1 : decode cX9_trace 1 = .ok (.iconst 0, 1) := by decide +kernel
theorem dX9_trace_2 : decode cX9_trace 2 = .ok (.aload_n 0, 1) := by decide +kernel
theorem dX9_trace_3 : decode cX9_trace 3 = .ok (.getfield 355, 3) := by decide +kernel
theorem dX9_trace_6 : decode cX9_trace 6 = .ok (.iconst 1, 1) := by decide +kernel
theorem dX9_trace_7 : decode cX9_trace 7 = .ok (.isub, 1) := by decide +kernel
theorem dX9_trace_8 : decode cX9_trace 8 = .ok (.invokestatic 109, 3) := by decide +kernel
theorem dX9_trace_11 : decode cX9_trace 11 = .ok (.ifCond .eq 12, 3) := by decide +kernel
theorem dX9_trace_14 : decode cX9_trace 14 = .ok (.aload_n 0, 1) := by decide +kernel
theorem dX9_trace_15 : decode cX9_trace 15 = .ok (.getfield 97, 3) := by decide +kernel
theorem dX9_trace_18 : decode cX9_trace 18 = .ok (.iload_n 1, 1) := by decide +kernel
theorem dX9_trace_19 : decode cX9_trace 19 = .ok (.iaload, 1) := by decide +kernel
theorem dX9_trace_20 : decode cX9_trace 20 = .ok (.goto 5, 3) := by decide +kernel
theorem dX9_trace_23 : decode cX9_trace 23 = .ok (.bipush (-3), 2) := by decide +kernel
theorem dX9_trace_25 : decode cX9_trace 25 = .ok (.ireturn, 1) := by decide +kernel
theorem dX9_many_0 : decode cX9_many 0 = .ok (.iconst 0, 1) := by decide +kernel
theorem dX9_many_1 : decode cX9_many 1 = .ok (.istore_n 2, 1) := by decide +kernel
theorem dX9_many_2 : decode cX9_many 2 = .ok (.iload_n 1, 1) := by decide +kernel
theorem dX9_many_3 : decode cX9_many 3 = .ok (.tableswitch 116 0 7 #[45, 50, 55, 60, 96, 101, 106, 111], 45) := by decide +kernel
theorem dX9_many_48 : decode cX9_many 48 = .ok (.aload_n 0, 1) := by decide +kernel
theorem dX9_many_49 : decode cX9_many 49 = .ok (.getfield 106, 3) := by decide +kernel
theorem dX9_many_52 : decode cX9_many 52 = .ok (.ireturn, 1) := by decide +kernel
theorem dX9_many_53 : decode cX9_many 53 = .ok (.aload_n 0, 1) := by decide +kernel
theorem dX9_many_54 : decode cX9_many 54 = .ok (.getfield 113, 3) := by decide +kernel
theorem dX9_many_57 : decode cX9_many 57 = .ok (.ireturn, 1) := by decide +kernel
theorem dX9_many_58 : decode cX9_many 58 = .ok (.aload_n 0, 1) := by decide +kernel
theorem dX9_many_59 : decode cX9_many 59 = .ok (.getfield 232, 3) := by decide +kernel
theorem dX9_many_62 : decode cX9_many 62 = .ok (.ireturn, 1) := by decide +kernel
theorem dX9_many_63 : decode cX9_many 63 = .ok (.iconst 0, 1) := by decide +kernel
theorem dX9_many_64 : decode cX9_many 64 = .ok (.istore_n 3, 1) := by decide +kernel
theorem dX9_many_65 : decode cX9_many 65 = .ok (.iload_n 3, 1) := by decide +kernel
theorem dX9_many_66 : decode cX9_many 66 = .ok (.aload_n 0, 1) := by decide +kernel
theorem dX9_many_67 : decode cX9_many 67 = .ok (.getfield 106, 3) := by decide +kernel
theorem dX9_many_70 : decode cX9_many 70 = .ok (.if_icmp .ge 27, 3) := by decide +kernel
theorem dX9_many_73 : decode cX9_many 73 = .ok (.iload_n 2, 1) := by decide +kernel
theorem dX9_many_74 : decode cX9_many 74 = .ok (.aload_n 0, 1) := by decide +kernel
theorem dX9_many_75 : decode cX9_many 75 = .ok (.getfield 19, 3) := by decide +kernel
theorem dX9_many_78 : decode cX9_many 78 = .ok (.iload_n 3, 1) := by decide +kernel
theorem dX9_many_79 : decode cX9_many 79 = .ok (.iaload, 1) := by decide +kernel
theorem dX9_many_80 : decode cX9_many 80 = .ok (.iload_n 3, 1) := by decide +kernel
theorem dX9_many_81 : decode cX9_many 81 = .ok (.if_icmp .ne 7, 3) := by decide +kernel
theorem dX9_many_84 : decode cX9_many 84 = .ok (.iconst 1, 1) := by decide +kernel
theorem dX9_many_85 : decode cX9_many 85 = .ok (.goto 4, 3) := by decide +kernel
theorem dX9_many_88 : decode cX9_many 88 = .ok (.iconst 0, 1) := by decide +kernel
theorem dX9_many_89 : decode cX9_many 89 = .ok (.iadd, 1) := by decide +kernel
theorem dX9_many_90 : decode cX9_many 90 = .ok (.istore_n 2, 1) := by decide +kernel
theorem dX9_many_91 : decode cX9_many 91 = .ok (.iinc 3 1, 3) := by decide +kernel
theorem dX9_many_94 : decode cX9_many 94 = .ok (.goto (-29), 3) := by decide +kernel
theorem dX9_many_97 : decode cX9_many 97 = .ok (.iload_n 2, 1) := by decide +kernel
theorem dX9_many_98 : decode cX9_many 98 = .ok (.ireturn, 1) := by decide +kernel
theorem dX9_many_99 : decode cX9_many 99 = .ok (.aload_n 0, 1) := by decide +kernel
theorem dX9_many_100 : decode cX9_many 100 = .ok (.invokevirtual 322, 3) := by decide +kernel
theorem dX9_many_103 : decode cX9_many 103 = .ok (.ireturn, 1) := by decide +kernel
theorem dX9_many_104 : decode cX9_many 104 = .ok (.aload_n 0, 1) := by decide +kernel
theorem dX9_many_105 : decode cX9_many 105 = .ok (.getfield 333, 3) := by decide +kernel
theorem dX9_many_108 : decode cX9_many 108 = .ok (.ireturn, 1) := by decide +kernel
theorem dX9_many_109 : decode cX9_many 109 = .ok (.aload_n 0, 1) := by decide +kernel
theorem dX9_many_110 : decode cX9_many 110 = .ok (.getfield 116, 3) := by decide +kernel
theorem dX9_many_113 : decode cX9_many 113 = .ok (.ireturn, 1) := by decide +kernel
theorem dX9_many_114 : decode cX9_many 114 = .ok (.aload_n 0, 1) := by decide +kernel
theorem dX9_many_115 : decode cX9_many 115 = .ok (.getfield 355, 3) := by decide +kernel
theorem dX9_many_118 : decode cX9_many 118 = .ok (.ireturn, 1) := by decide +kernel
theorem dX9_many_119 : decode cX9_many 119 = .ok (.iconst (-1), 1) := by decide +kernel
theorem dX9_many_120 : decode cX9_many 120 = .ok (.ireturn, 1) := by decide +kernel
theorem dX9_move_0 : decode cX9_move 0 = .ok (.iconst 0, 1) := by decide +kernel
theorem dX9_move_1 : decode cX9_move 1 = .ok (.istore 4, 2) := by decide +kernel
theorem dX9_move_3 : decode cX9_move 3 = .ok (.iload 4, 2) := by decide +kernel
theorem dX9_move_5 : decode cX9_move 5 = .ok (.iload_n 2, 1) := by decide +kernel
theorem dX9_move_6 : decode cX9_move 6 = .ok (.if_icmp .ge 52, 3) := by decide +kernel
theorem dX9_move_9 : decode cX9_move 9 = .ok (.iload_n 3, 1) := by decide +kernel
theorem dX9_move_10 : decode cX9_move 10 = .ok (.ifCond .eq 19, 3) := by decide +kernel
theorem dX9_move_13 : decode cX9_move 13 = .ok (.aload_n 0, 1) := by decide +kernel
theorem dX9_move_14 : decode cX9_move 14 = .ok (.getfield 100, 3) := by decide +kernel
theorem dX9_move_17 : decode cX9_move 17 = .ok (.aload_n 0, 1) := by decide +kernel
theorem dX9_move_18 : decode cX9_move 18 = .ok (.getfield 403, 3) := by decide +kernel
theorem dX9_move_21 : decode cX9_move 21 = .ok (.aload_n 1, 1) := by decide +kernel
theorem dX9_move_22 : decode cX9_move 22 = .ok (.iload 4, 2) := by decide +kernel
theorem dX9_move_24 : decode cX9_move 24 = .ok (.iaload, 1) := by decide +kernel
theorem dX9_move_25 : decode cX9_move 25 = .ok (.iastore, 1) := by decide +kernel
theorem dX9_move_26 : decode cX9_move 26 = .ok (.goto 16, 3) := by decide +kernel
theorem dX9_move_29 : decode cX9_move 29 = .ok (.aload_n 1, 1) := by decide +kernel
theorem dX9_move_30 : decode cX9_move 30 = .ok (.iload 4, 2) := by decide +kernel
theorem dX9_move_32 : decode cX9_move 32 = .ok (.aload_n 0, 1) := by decide +kernel
theorem dX9_move_33 : decode cX9_move 33 = .ok (.getfield 100, 3) := by decide +kernel
theorem dX9_move_36 : decode cX9_move 36 = .ok (.aload_n 0, 1) := by decide +kernel
theorem dX9_move_37 : decode cX9_move 37 = .ok (.getfield 403, 3) := by decide +kernel
theorem dX9_move_40 : decode cX9_move 40 = .ok (.iaload, 1) := by decide +kernel
theorem dX9_move_41 : decode cX9_move 41 = .ok (.iastore, 1) := by decide +kernel
theorem dX9_move_42 : decode cX9_move 42 = .ok (.aload_n 0, 1) := by decide +kernel
theorem dX9_move_43 : decode cX9_move 43 = .ok (.dup, 1) := by decide +kernel
theorem dX9_move_44 : decode cX9_move 44 = .ok (.getfield 403, 3) := by decide +kernel
theorem dX9_move_47 : decode cX9_move 47 = .ok (.iconst 1, 1) := by decide +kernel
theorem dX9_move_48 : decode cX9_move 48 = .ok (.iadd, 1) := by decide +kernel
theorem dX9_move_49 : decode cX9_move 49 = .ok (.putfield 403, 3) := by decide +kernel
theorem dX9_move_52 : decode cX9_move 52 = .ok (.iinc 4 1, 3) := by decide +kernel
theorem dX9_move_55 : decode cX9_move 55 = .ok (.goto (-52), 3) := by decide +kernel
theorem dX9_move_58 : decode cX9_move 58 = .ok (.return_, 1) := by decide +kernel
theorem dX9_moveAll_0 : decode cX9_moveAll 0 = .ok (.aload_n 0, 1) := by decide +kernel
theorem dX9_moveAll_1 : decode cX9_moveAll 1 = .ok (.iconst 0, 1) := by decide +kernel
theorem dX9_moveAll_2 : decode cX9_moveAll 2 = .ok (.putfield 403, 3) := by decide +kernel
theorem dX9_moveAll_5 : decode cX9_moveAll 5 = .ok (.aload_n 0, 1) := by decide +kernel
theorem dX9_moveAll_6 : decode cX9_moveAll 6 = .ok (.getfield 103, 3) := by decide +kernel
theorem dX9_moveAll_9 : decode cX9_moveAll 9 = .ok (.iconst 0, 1) := by decide +kernel
theorem dX9_moveAll_10 : decode cX9_moveAll 10 = .ok (.aload_n 0, 1) := by decide +kernel
theorem dX9_moveAll_11 : decode cX9_moveAll 11 = .ok (.getfield 106, 3) := by decide +kernel
theorem dX9_moveAll_14 : decode cX9_moveAll 14 = .ok (.iastore, 1) := by decide +kernel
theorem dX9_moveAll_15 : decode cX9_moveAll 15 = .ok (.aload_n 0, 1) := by decide +kernel
theorem dX9_moveAll_16 : decode cX9_moveAll 16 = .ok (.getfield 103, 3) := by decide +kernel
theorem dX9_moveAll_19 : decode cX9_moveAll 19 = .ok (.iconst 1, 1) := by decide +kernel
theorem dX9_moveAll_20 : decode cX9_moveAll 20 = .ok (.aload_n 0, 1) := by decide +kernel
theorem dX9_moveAll_21 : decode cX9_moveAll 21 = .ok (.getfield 113, 3) := by decide +kernel
theorem dX9_moveAll_24 : decode cX9_moveAll 24 = .ok (.iastore, 1) := by decide +kernel
theorem dX9_moveAll_25 : decode cX9_moveAll 25 = .ok (.aload_n 0, 1) := by decide +kernel
theorem dX9_moveAll_26 : decode cX9_moveAll 26 = .ok (.getfield 103, 3) := by decide +kernel
theorem dX9_moveAll_29 : decode cX9_moveAll 29 = .ok (.iconst 2, 1) := by decide +kernel
theorem dX9_moveAll_30 : decode cX9_moveAll 30 = .ok (.aload_n 0, 1) := by decide +kernel
theorem dX9_moveAll_31 : decode cX9_moveAll 31 = .ok (.getfield 232, 3) := by decide +kernel
theorem dX9_moveAll_34 : decode cX9_moveAll 34 = .ok (.iastore, 1) := by decide +kernel
theorem dX9_moveAll_35 : decode cX9_moveAll 35 = .ok (.aload_n 0, 1) := by decide +kernel
theorem dX9_moveAll_36 : decode cX9_moveAll 36 = .ok (.getfield 103, 3) := by decide +kernel
theorem dX9_moveAll_39 : decode cX9_moveAll 39 = .ok (.iconst 3, 1) := by decide +kernel
theorem dX9_moveAll_40 : decode cX9_moveAll 40 = .ok (.aload_n 0, 1) := by decide +kernel
theorem dX9_moveAll_41 : decode cX9_moveAll 41 = .ok (.getfield 37, 3) := by decide +kernel
theorem dX9_moveAll_44 : decode cX9_moveAll 44 = .ok (.iastore, 1) := by decide +kernel
theorem dX9_moveAll_45 : decode cX9_moveAll 45 = .ok (.aload_n 0, 1) := by decide +kernel
theorem dX9_moveAll_46 : decode cX9_moveAll 46 = .ok (.aload_n 0, 1) := by decide +kernel
theorem dX9_moveAll_47 : decode cX9_moveAll 47 = .ok (.getfield 103, 3) := by decide +kernel
theorem dX9_moveAll_50 : decode cX9_moveAll 50 = .ok (.iconst 4, 1) := by decide +kernel
theorem dX9_moveAll_51 : decode cX9_moveAll 51 = .ok (.iload_n 1, 1) := by decide +kernel
theorem dX9_moveAll_52 : decode cX9_moveAll 52 = .ok (.invokevirtual 406, 3) := by decide +kernel
theorem dX9_moveAll_55 : decode cX9_moveAll 55 = .ok (.aload_n 0, 1) := by decide +kernel
theorem dX9_moveAll_56 : decode cX9_moveAll 56 = .ok (.aload_n 0, 1) := by decide +kernel
theorem dX9_moveAll_57 : decode cX9_moveAll 57 = .ok (.getfield 7, 3) := by decide +kernel
theorem dX9_moveAll_60 : decode cX9_moveAll 60 = .ok (.iconst 4, 1) := by decide +kernel
theorem dX9_moveAll_61 : decode cX9_moveAll 61 = .ok (.iload_n 1, 1) := by decide +kernel
theorem dX9_moveAll_62 : decode cX9_moveAll 62 = .ok (.invokevirtual 406, 3) := by decide +kernel
theorem dX9_moveAll_65 : decode cX9_moveAll 65 = .ok (.aload_n 0, 1) := by decide +kernel
theorem dX9_moveAll_66 : decode cX9_moveAll 66 = .ok (.aload_n 0, 1) := by decide +kernel
theorem dX9_moveAll_67 : decode cX9_moveAll 67 = .ok (.getfield 13, 3) := by decide +kernel
theorem dX9_moveAll_70 : decode cX9_moveAll 70 = .ok (.bipush 10, 2) := by decide +kernel
theorem dX9_moveAll_72 : decode cX9_moveAll 72 = .ok (.iload_n 1, 1) := by decide +kernel
theorem dX9_moveAll_73 : decode cX9_moveAll 73 = .ok (.invokevirtual 406, 3) := by decide +kernel
theorem dX9_moveAll_76 : decode cX9_moveAll 76 = .ok (.aload_n 0, 1) := by decide +kernel
theorem dX9_moveAll_77 : decode cX9_moveAll 77 = .ok (.aload_n 0, 1) := by decide +kernel
theorem dX9_moveAll_78 : decode cX9_moveAll 78 = .ok (.getfield 16, 3) := by decide +kernel
theorem dX9_moveAll_81 : decode cX9_moveAll 81 = .ok (.bipush 10, 2) := by decide +kernel
theorem dX9_moveAll_83 : decode cX9_moveAll 83 = .ok (.iload_n 1, 1) := by decide +kernel
theorem dX9_moveAll_84 : decode cX9_moveAll 84 = .ok (.invokevirtual 406, 3) := by decide +kernel
theorem dX9_moveAll_87 : decode cX9_moveAll 87 = .ok (.aload_n 0, 1) := by decide +kernel
theorem dX9_moveAll_88 : decode cX9_moveAll 88 = .ok (.aload_n 0, 1) := by decide +kernel
theorem dX9_moveAll_89 : decode cX9_moveAll 89 = .ok (.getfield 19, 3) := by decide +kernel
theorem dX9_moveAll_92 : decode cX9_moveAll 92 = .ok (.bipush 10, 2) := by decide +kernel
theorem dX9_moveAll_94 : decode cX9_moveAll 94 = .ok (.iload_n 1, 1) := by decide +kernel
theorem dX9_moveAll_95 : decode cX9_moveAll 95 = .ok (.invokevirtual 406, 3) := by decide +kernel
theorem dX9_moveAll_98 : decode cX9_moveAll 98 = .ok (.aload_n 0, 1) := by decide +kernel
theorem dX9_moveAll_99 : decode cX9_moveAll 99 = .ok (.aload_n 0, 1) := by decide +kernel
theorem dX9_moveAll_100 : decode cX9_moveAll 100 = .ok (.getfield 22, 3) := by decide +kernel
theorem dX9_moveAll_103 : decode cX9_moveAll 103 = .ok (.bipush 99, 2) := by decide +kernel
theorem dX9_moveAll_105 : decode cX9_moveAll 105 = .ok (.iload_n 1, 1) := by decide +kernel
theorem dX9_moveAll_106 : decode cX9_moveAll 106 = .ok (.invokevirtual 406, 3) := by decide +kernel
theorem dX9_moveAll_109 : decode cX9_moveAll 109 = .ok (.aload_n 0, 1) := by decide +kernel
theorem dX9_moveAll_110 : decode cX9_moveAll 110 = .ok (.aload_n 0, 1) := by decide +kernel
theorem dX9_moveAll_111 : decode cX9_moveAll 111 = .ok (.getfield 25, 3) := by decide +kernel
theorem dX9_moveAll_114 : decode cX9_moveAll 114 = .ok (.bipush 7, 2) := by decide +kernel
theorem dX9_moveAll_116 : decode cX9_moveAll 116 = .ok (.iload_n 1, 1) := by decide +kernel
theorem dX9_moveAll_117 : decode cX9_moveAll 117 = .ok (.invokevirtual 406, 3) := by decide +kernel
theorem dX9_moveAll_120 : decode cX9_moveAll 120 = .ok (.aload_n 0, 1) := by decide +kernel
theorem dX9_moveAll_121 : decode cX9_moveAll 121 = .ok (.aload_n 0, 1) := by decide +kernel
theorem dX9_moveAll_122 : decode cX9_moveAll 122 = .ok (.getfield 31, 3) := by decide +kernel
theorem dX9_moveAll_125 : decode cX9_moveAll 125 = .ok (.bipush 24, 2) := by decide +kernel
theorem dX9_moveAll_127 : decode cX9_moveAll 127 = .ok (.iload_n 1, 1) := by decide +kernel
theorem dX9_moveAll_128 : decode cX9_moveAll 128 = .ok (.invokevirtual 406, 3) := by decide +kernel
theorem dX9_moveAll_131 : decode cX9_moveAll 131 = .ok (.aload_n 0, 1) := by decide +kernel
theorem dX9_moveAll_132 : decode cX9_moveAll 132 = .ok (.aload_n 0, 1) := by decide +kernel
theorem dX9_moveAll_133 : decode cX9_moveAll 133 = .ok (.getfield 34, 3) := by decide +kernel
theorem dX9_moveAll_136 : decode cX9_moveAll 136 = .ok (.sipush 200, 3) := by decide +kernel
theorem dX9_moveAll_139 : decode cX9_moveAll 139 = .ok (.iload_n 1, 1) := by decide +kernel
theorem dX9_moveAll_140 : decode cX9_moveAll 140 = .ok (.invokevirtual 406, 3) := by decide +kernel
theorem dX9_moveAll_143 : decode cX9_moveAll 143 = .ok (.return_, 1) := by decide +kernel
theorem dX9_keep_0 : decode cX9_keep 0 = .ok (.aload_n 0, 1) := by decide +kernel
theorem dX9_keep_1 : decode cX9_keep 1 = .ok (.iconst 1, 1) := by decide +kernel
theorem dX9_keep_2 : decode cX9_keep 2 = .ok (.invokevirtual 410, 3) := by decide +kernel
theorem dX9_keep_5 : decode cX9_keep 5 = .ok (.aload_n 0, 1) := by decide +kernel
theorem dX9_keep_6 : decode cX9_keep 6 = .ok (.iconst 1, 1) := by decide +kernel
theorem dX9_keep_7 : decode cX9_keep 7 = .ok (.putfield 414, 3) := by decide +kernel
theorem dX9_keep_10 : decode cX9_keep 10 = .ok (.iconst 1, 1) := by decide +kernel
theorem dX9_keep_11 : decode cX9_keep 11 = .ok (.ireturn, 1) := by decide +kernel
theorem dX9_again_0 : decode cX9_again 0 = .ok (.aload_n 0, 1) := by decide +kernel
theorem dX9_again_1 : decode cX9_again 1 = .ok (.getfield 414, 3) := by decide +kernel
theorem dX9_again_4 : decode cX9_again 4 = .ok (.ifCond .ne 6, 3) := by decide +kernel
theorem dX9_again_7 : decode cX9_again 7 = .ok (.bipush (-3), 2) := by decide +kernel
theorem dX9_again_9 : decode cX9_again 9 = .ok (.ireturn, 1) := by decide +kernel
theorem dX9_again_10 : decode cX9_again 10 = .ok (.aload_n 0, 1) := by decide +kernel
theorem dX9_again_11 : decode cX9_again 11 = .ok (.iconst 0, 1) := by decide +kernel
theorem dX9_again_12 : decode cX9_again 12 = .ok (.invokevirtual 410, 3) := by decide +kernel
theorem dX9_again_15 : decode cX9_again 15 = .ok (.aload_n 0, 1) := by decide +kernel
theorem dX9_again_16 : decode cX9_again 16 = .ok (.aload_n 0, 1) := by decide +kernel
theorem dX9_again_17 : decode cX9_again 17 = .ok (.getfield 103, 3) := by decide +kernel
theorem dX9_again_20 : decode cX9_again 20 = .ok (.iconst 0, 1) := by decide +kernel
theorem dX9_again_21 : decode cX9_again 21 = .ok (.iaload, 1) := by decide +kernel
theorem dX9_again_22 : decode cX9_again 22 = .ok (.putfield 106, 3) := by decide +kernel
theorem dX9_again_25 : decode cX9_again 25 = .ok (.aload_n 0, 1) := by decide +kernel
theorem dX9_again_26 : decode cX9_again 26 = .ok (.aload_n 0, 1) := by decide +kernel
theorem dX9_again_27 : decode cX9_again 27 = .ok (.getfield 103, 3) := by decide +kernel
theorem dX9_again_30 : decode cX9_again 30 = .ok (.iconst 1, 1) := by decide +kernel
theorem dX9_again_31 : decode cX9_again 31 = .ok (.iaload, 1) := by decide +kernel
theorem dX9_again_32 : decode cX9_again 32 = .ok (.putfield 113, 3) := by decide +kernel
theorem dX9_again_35 : decode cX9_again 35 = .ok (.aload_n 0, 1) := by decide +kernel
theorem dX9_again_36 : decode cX9_again 36 = .ok (.aload_n 0, 1) := by decide +kernel
theorem dX9_again_37 : decode cX9_again 37 = .ok (.getfield 103, 3) := by decide +kernel
theorem dX9_again_40 : decode cX9_again 40 = .ok (.iconst 2, 1) := by decide +kernel
theorem dX9_again_41 : decode cX9_again 41 = .ok (.iaload, 1) := by decide +kernel
theorem dX9_again_42 : decode cX9_again 42 = .ok (.putfield 232, 3) := by decide +kernel
theorem dX9_again_45 : decode cX9_again 45 = .ok (.aload_n 0, 1) := by decide +kernel
theorem dX9_again_46 : decode cX9_again 46 = .ok (.aload_n 0, 1) := by decide +kernel
theorem dX9_again_47 : decode cX9_again 47 = .ok (.getfield 103, 3) := by decide +kernel
theorem dX9_again_50 : decode cX9_again 50 = .ok (.iconst 3, 1) := by decide +kernel
theorem dX9_again_51 : decode cX9_again 51 = .ok (.iaload, 1) := by decide +kernel
theorem dX9_again_52 : decode cX9_again 52 = .ok (.putfield 37, 3) := by decide +kernel
theorem dX9_again_55 : decode cX9_again 55 = .ok (.aload_n 0, 1) := by decide +kernel
theorem dX9_again_56 : decode cX9_again 56 = .ok (.getfield 113, 3) := by decide +kernel
theorem dX9_again_59 : decode cX9_again 59 = .ok (.ireturn, 1) := by decide +kernel
theorem dL_law_0 : decode cL_law 0 = .ok (.new 7, 3) := by decide +kernel
theorem dL_law_3 : decode cL_law 3 = .ok (.dup, 1) := by decide +kernel
theorem dL_law_4 : decode cL_law 4 = .ok (.invokespecial 9, 3) := by decide +kernel
theorem dL_law_7 : decode cL_law 7 = .ok (.astore_n 1, 1) := by decide +kernel
theorem dL_law_8 : decode cL_law 8 = .ok (.new 10, 3) := by decide +kernel
theorem dL_law_11 : decode cL_law 11 = .ok (.dup, 1) := by decide +kernel
theorem dL_law_12 : decode cL_law 12 = .ok (.invokespecial 12, 3) := by decide +kernel
theorem dL_law_15 : decode cL_law 15 = .ok (.astore_n 2, 1) := by decide +kernel
theorem dL_law_16 : decode cL_law 16 = .ok (.iconst 0, 1) := by decide +kernel
theorem dL_law_17 : decode cL_law 17 = .ok (.istore_n 3, 1) := by decide +kernel
theorem dL_law_18 : decode cL_law 18 = .ok (.iload_n 3, 1) := by decide +kernel
theorem dL_law_19 : decode cL_law 19 = .ok (.aload_n 0, 1) := by decide +kernel
theorem dL_law_20 : decode cL_law 20 = .ok (.arraylength, 1) := by decide +kernel
theorem dL_law_21 : decode cL_law 21 = .ok (.bipush 6, 2) := by decide +kernel
theorem dL_law_23 : decode cL_law 23 = .ok (.isub, 1) := by decide +kernel
theorem dL_law_24 : decode cL_law 24 = .ok (.if_icmp .gt 1504, 3) := by decide +kernel
theorem dL_law_27 : decode cL_law 27 = .ok (.aload_n 0, 1) := by decide +kernel
theorem dL_law_28 : decode cL_law 28 = .ok (.iload_n 3, 1) := by decide +kernel
theorem dL_law_29 : decode cL_law 29 = .ok (.iaload, 1) := by decide +kernel
theorem dL_law_30 : decode cL_law 30 = .ok (.bipush 63, 2) := by decide +kernel
theorem dL_law_32 : decode cL_law 32 = .ok (.iand, 1) := by decide +kernel
theorem dL_law_33 : decode cL_law 33 = .ok (.tableswitch 1489 0 42 #[187, 250, 263, 296, 345, 378, 411, 474, 507, 550, 583, 616, 639, 662, 695, 718, 741, 764, 787, 810, 823, 857, 880, 903, 926, 985, 1008, 1031, 1054, 1067, 1080, 1113, 1156, 1169, 1212, 1255, 1298, 1341, 1374, 1417, 1440, 1463, 1476], 187) := by decide +kernel
theorem dL_law_220 : decode cL_law 220 = .ok (.aload_n 1, 1) := by decide +kernel
theorem dL_law_221 : decode cL_law 221 = .ok (.aload_n 0, 1) := by decide +kernel
theorem dL_law_222 : decode cL_law 222 = .ok (.iload_n 3, 1) := by decide +kernel
theorem dL_law_223 : decode cL_law 223 = .ok (.iconst 1, 1) := by decide +kernel
theorem dL_law_224 : decode cL_law 224 = .ok (.iadd, 1) := by decide +kernel
theorem dL_law_225 : decode cL_law 225 = .ok (.iaload, 1) := by decide +kernel
theorem dL_law_226 : decode cL_law 226 = .ok (.i2l, 1) := by decide +kernel
theorem dL_law_227 : decode cL_law 227 = .ok (.bipush 32, 2) := by decide +kernel
theorem dL_law_229 : decode cL_law 229 = .ok (.lshl, 1) := by decide +kernel
theorem dL_law_230 : decode cL_law 230 = .ok (.aload_n 0, 1) := by decide +kernel
theorem dL_law_231 : decode cL_law 231 = .ok (.iload_n 3, 1) := by decide +kernel
theorem dL_law_232 : decode cL_law 232 = .ok (.iconst 2, 1) := by decide +kernel
theorem dL_law_233 : decode cL_law 233 = .ok (.iadd, 1) := by decide +kernel
theorem dL_law_234 : decode cL_law 234 = .ok (.iaload, 1) := by decide +kernel
theorem dL_law_235 : decode cL_law 235 = .ok (.i2l, 1) := by decide +kernel
theorem dL_law_236 : decode cL_law 236 = .ok (.ldc2_w 13, 3) := by decide +kernel
theorem dL_law_239 : decode cL_law 239 = .ok (.land, 1) := by decide +kernel
theorem dL_law_240 : decode cL_law 240 = .ok (.lor, 1) := by decide +kernel
theorem dL_law_241 : decode cL_law 241 = .ok (.aload_n 0, 1) := by decide +kernel
theorem dL_law_242 : decode cL_law 242 = .ok (.iload_n 3, 1) := by decide +kernel
theorem dL_law_243 : decode cL_law 243 = .ok (.iconst 3, 1) := by decide +kernel
theorem dL_law_244 : decode cL_law 244 = .ok (.iadd, 1) := by decide +kernel
theorem dL_law_245 : decode cL_law 245 = .ok (.iaload, 1) := by decide +kernel
theorem dL_law_246 : decode cL_law 246 = .ok (.invokevirtual 15, 3) := by decide +kernel
theorem dL_law_249 : decode cL_law 249 = .ok (.aload_n 2, 1) := by decide +kernel
theorem dL_law_250 : decode cL_law 250 = .ok (.aload_n 0, 1) := by decide +kernel
theorem dL_law_251 : decode cL_law 251 = .ok (.iload_n 3, 1) := by decide +kernel
theorem dL_law_252 : decode cL_law 252 = .ok (.iconst 1, 1) := by decide +kernel
theorem dL_law_253 : decode cL_law 253 = .ok (.iadd, 1) := by decide +kernel
theorem dL_law_254 : decode cL_law 254 = .ok (.iaload, 1) := by decide +kernel
theorem dL_law_255 : decode cL_law 255 = .ok (.i2l, 1) := by decide +kernel
theorem dL_law_256 : decode cL_law 256 = .ok (.bipush 32, 2) := by decide +kernel
theorem dL_law_258 : decode cL_law 258 = .ok (.lshl, 1) := by decide +kernel
theorem dL_law_259 : decode cL_law 259 = .ok (.aload_n 0, 1) := by decide +kernel
theorem dL_law_260 : decode cL_law 260 = .ok (.iload_n 3, 1) := by decide +kernel
theorem dL_law_261 : decode cL_law 261 = .ok (.iconst 2, 1) := by decide +kernel
theorem dL_law_262 : decode cL_law 262 = .ok (.iadd, 1) := by decide +kernel
theorem dL_law_263 : decode cL_law 263 = .ok (.iaload, 1) := by decide +kernel
theorem dL_law_264 : decode cL_law 264 = .ok (.i2l, 1) := by decide +kernel
theorem dL_law_265 : decode cL_law 265 = .ok (.ldc2_w 13, 3) := by decide +kernel
theorem dL_law_268 : decode cL_law 268 = .ok (.land, 1) := by decide +kernel
theorem dL_law_269 : decode cL_law 269 = .ok (.lor, 1) := by decide +kernel
theorem dL_law_270 : decode cL_law 270 = .ok (.aload_n 0, 1) := by decide +kernel
theorem dL_law_271 : decode cL_law 271 = .ok (.iload_n 3, 1) := by decide +kernel
theorem dL_law_272 : decode cL_law 272 = .ok (.iconst 3, 1) := by decide +kernel
theorem dL_law_273 : decode cL_law 273 = .ok (.iadd, 1) := by decide +kernel
theorem dL_law_274 : decode cL_law 274 = .ok (.iaload, 1) := by decide +kernel
theorem dL_law_275 : decode cL_law 275 = .ok (.invokevirtual 19, 3) := by decide +kernel
theorem dL_law_278 : decode cL_law 278 = .ok (.if_icmp .eq 1244, 3) := by decide +kernel
theorem dL_law_281 : decode cL_law 281 = .ok (.iconst 0, 1) := by decide +kernel
theorem dL_law_282 : decode cL_law 282 = .ok (.ireturn, 1) := by decide +kernel
theorem dL_law_283 : decode cL_law 283 = .ok (.aload_n 1, 1) := by decide +kernel
theorem dL_law_284 : decode cL_law 284 = .ok (.invokevirtual 20, 3) := by decide +kernel
theorem dL_law_287 : decode cL_law 287 = .ok (.aload_n 2, 1) := by decide +kernel
theorem dL_law_288 : decode cL_law 288 = .ok (.invokevirtual 24, 3) := by decide +kernel
theorem dL_law_291 : decode cL_law 291 = .ok (.if_icmp .eq 1231, 3) := by decide +kernel
theorem dL_law_294 : decode cL_law 294 = .ok (.iconst 0, 1) := by decide +kernel
theorem dL_law_295 : decode cL_law 295 = .ok (.ireturn, 1) := by decide +kernel
theorem dL_law_296 : decode cL_law 296 = .ok (.aload_n 1, 1) := by decide +kernel
theorem dL_law_297 : decode cL_law 297 = .ok (.aload_n 0, 1) := by decide +kernel
theorem dL_law_298 : decode cL_law 298 = .ok (.iload_n 3, 1) := by decide +kernel
theorem dL_law_299 : decode cL_law 299 = .ok (.iconst 1, 1) := by decide +kernel
theorem dL_law_300 : decode cL_law 300 = .ok (.iadd, 1) := by decide +kernel
theorem dL_law_301 : decode cL_law 301 = .ok (.iaload, 1) := by decide +kernel
theorem dL_law_302 : decode cL_law 302 = .ok (.aload_n 0, 1) := by decide +kernel
theorem dL_law_303 : decode cL_law 303 = .ok (.iload_n 3, 1) := by decide +kernel
theorem dL_law_304 : decode cL_law 304 = .ok (.iconst 2, 1) := by decide +kernel
theorem dL_law_305 : decode cL_law 305 = .ok (.iadd, 1) := by decide +kernel
theorem dL_law_306 : decode cL_law 306 = .ok (.iaload, 1) := by decide +kernel
theorem dL_law_307 : decode cL_law 307 = .ok (.invokevirtual 25, 3) := by decide +kernel
theorem dL_law_310 : decode cL_law 310 = .ok (.aload_n 2, 1) := by decide +kernel
theorem dL_law_311 : decode cL_law 311 = .ok (.aload_n 0, 1) := by decide +kernel
theorem dL_law_312 : decode cL_law 312 = .ok (.iload_n 3, 1) := by decide +kernel
theorem dL_law_313 : decode cL_law 313 = .ok (.iconst 1, 1) := by decide +kernel
theorem dL_law_314 : decode cL_law 314 = .ok (.iadd, 1) := by decide +kernel
theorem dL_law_315 : decode cL_law 315 = .ok (.iaload, 1) := by decide +kernel
theorem dL_law_316 : decode cL_law 316 = .ok (.aload_n 0, 1) := by decide +kernel
theorem dL_law_317 : decode cL_law 317 = .ok (.iload_n 3, 1) := by decide +kernel
theorem dL_law_318 : decode cL_law 318 = .ok (.iconst 2, 1) := by decide +kernel
theorem dL_law_319 : decode cL_law 319 = .ok (.iadd, 1) := by decide +kernel
theorem dL_law_320 : decode cL_law 320 = .ok (.iaload, 1) := by decide +kernel
theorem dL_law_321 : decode cL_law 321 = .ok (.invokevirtual 29, 3) := by decide +kernel
theorem dL_law_324 : decode cL_law 324 = .ok (.if_icmp .eq 1198, 3) := by decide +kernel
theorem dL_law_327 : decode cL_law 327 = .ok (.iconst 0, 1) := by decide +kernel
theorem dL_law_328 : decode cL_law 328 = .ok (.ireturn, 1) := by decide +kernel
theorem dL_law_329 : decode cL_law 329 = .ok (.aload_n 1, 1) := by decide +kernel
theorem dL_law_330 : decode cL_law 330 = .ok (.aload_n 0, 1) := by decide +kernel
theorem dL_law_331 : decode cL_law 331 = .ok (.iload_n 3, 1) := by decide +kernel
theorem dL_law_332 : decode cL_law 332 = .ok (.iconst 1, 1) := by decide +kernel
theorem dL_law_333 : decode cL_law 333 = .ok (.iadd, 1) := by decide +kernel
theorem dL_law_334 : decode cL_law 334 = .ok (.iaload, 1) := by decide +kernel
theorem dL_law_335 : decode cL_law 335 = .ok (.aload_n 0, 1) := by decide +kernel
theorem dL_law_336 : decode cL_law 336 = .ok (.iload_n 3, 1) := by decide +kernel
theorem dL_law_337 : decode cL_law 337 = .ok (.iconst 2, 1) := by decide +kernel
theorem dL_law_338 : decode cL_law 338 = .ok (.iadd, 1) := by decide +kernel
theorem dL_law_339 : decode cL_law 339 = .ok (.iaload, 1) := by decide +kernel
theorem dL_law_340 : decode cL_law 340 = .ok (.ifCond .eq 7, 3) := by decide +kernel
theorem dL_law_343 : decode cL_law 343 = .ok (.iconst 1, 1) := by decide +kernel
theorem dL_law_344 : decode cL_law 344 = .ok (.goto 4, 3) := by decide +kernel
theorem dL_law_347 : decode cL_law 347 = .ok (.iconst 0, 1) := by decide +kernel
theorem dL_law_348 : decode cL_law 348 = .ok (.invokevirtual 30, 3) := by decide +kernel
theorem dL_law_351 : decode cL_law 351 = .ok (.aload_n 2, 1) := by decide +kernel
theorem dL_law_352 : decode cL_law 352 = .ok (.aload_n 0, 1) := by decide +kernel
theorem dL_law_353 : decode cL_law 353 = .ok (.iload_n 3, 1) := by decide +kernel
theorem dL_law_354 : decode cL_law 354 = .ok (.iconst 1, 1) := by decide +kernel
theorem dL_law_355 : decode cL_law 355 = .ok (.iadd, 1) := by decide +kernel
theorem dL_law_356 : decode cL_law 356 = .ok (.iaload, 1) := by decide +kernel
theorem dL_law_357 : decode cL_law 357 = .ok (.aload_n 0, 1) := by decide +kernel
theorem dL_law_358 : decode cL_law 358 = .ok (.iload_n 3, 1) := by decide +kernel
theorem dL_law_359 : decode cL_law 359 = .ok (.iconst 2, 1) := by decide +kernel
theorem dL_law_360 : decode cL_law 360 = .ok (.iadd, 1) := by decide +kernel
theorem dL_law_361 : decode cL_law 361 = .ok (.iaload, 1) := by decide +kernel
theorem dL_law_362 : decode cL_law 362 = .ok (.ifCond .eq 7, 3) := by decide +kernel
theorem dL_law_365 : decode cL_law 365 = .ok (.iconst 1, 1) := by decide +kernel
theorem dL_law_366 : decode cL_law 366 = .ok (.goto 4, 3) := by decide +kernel
theorem dL_law_369 : decode cL_law 369 = .ok (.iconst 0, 1) := by decide +kernel
theorem dL_law_370 : decode cL_law 370 = .ok (.invokevirtual 34, 3) := by decide +kernel
theorem dL_law_373 : decode cL_law 373 = .ok (.if_icmp .eq 1149, 3) := by decide +kernel
theorem dL_law_376 : decode cL_law 376 = .ok (.iconst 0, 1) := by decide +kernel
theorem dL_law_377 : decode cL_law 377 = .ok (.ireturn, 1) := by decide +kernel
theorem dL_law_378 : decode cL_law 378 = .ok (.aload_n 1, 1) := by decide +kernel
theorem dL_law_379 : decode cL_law 379 = .ok (.aload_n 0, 1) := by decide +kernel
theorem dL_law_380 : decode cL_law 380 = .ok (.iload_n 3, 1) := by decide +kernel
theorem dL_law_381 : decode cL_law 381 = .ok (.iconst 1, 1) := by decide +kernel
theorem dL_law_382 : decode cL_law 382 = .ok (.iadd, 1) := by decide +kernel
theorem dL_law_383 : decode cL_law 383 = .ok (.iaload, 1) := by decide +kernel
theorem dL_law_384 : decode cL_law 384 = .ok (.aload_n 0, 1) := by decide +kernel
theorem dL_law_385 : decode cL_law 385 = .ok (.iload_n 3, 1) := by decide +kernel
theorem dL_law_386 : decode cL_law 386 = .ok (.iconst 2, 1) := by decide +kernel
theorem dL_law_387 : decode cL_law 387 = .ok (.iadd, 1) := by decide +kernel
theorem dL_law_388 : decode cL_law 388 = .ok (.iaload, 1) := by decide +kernel
theorem dL_law_389 : decode cL_law 389 = .ok (.invokevirtual 35, 3) := by decide +kernel
theorem dL_law_392 : decode cL_law 392 = .ok (.aload_n 2, 1) := by decide +kernel
theorem dL_law_393 : decode cL_law 393 = .ok (.aload_n 0, 1) := by decide +kernel
theorem dL_law_394 : decode cL_law 394 = .ok (.iload_n 3, 1) := by decide +kernel
theorem dL_law_395 : decode cL_law 395 = .ok (.iconst 1, 1) := by decide +kernel
theorem dL_law_396 : decode cL_law 396 = .ok (.iadd, 1) := by decide +kernel
theorem dL_law_397 : decode cL_law 397 = .ok (.iaload, 1) := by decide +kernel
theorem dL_law_398 : decode cL_law 398 = .ok (.aload_n 0, 1) := by decide +kernel
theorem dL_law_399 : decode cL_law 399 = .ok (.iload_n 3, 1) := by decide +kernel
theorem dL_law_400 : decode cL_law 400 = .ok (.iconst 2, 1) := by decide +kernel
theorem dL_law_401 : decode cL_law 401 = .ok (.iadd, 1) := by decide +kernel
theorem dL_law_402 : decode cL_law 402 = .ok (.iaload, 1) := by decide +kernel
theorem dL_law_403 : decode cL_law 403 = .ok (.invokevirtual 38, 3) := by decide +kernel
theorem dL_law_406 : decode cL_law 406 = .ok (.if_icmp .eq 1116, 3) := by decide +kernel
theorem dL_law_409 : decode cL_law 409 = .ok (.iconst 0, 1) := by decide +kernel
theorem dL_law_410 : decode cL_law 410 = .ok (.ireturn, 1) := by decide +kernel
theorem dL_law_411 : decode cL_law 411 = .ok (.aload_n 1, 1) := by decide +kernel
theorem dL_law_412 : decode cL_law 412 = .ok (.aload_n 0, 1) := by decide +kernel
theorem dL_law_413 : decode cL_law 413 = .ok (.iload_n 3, 1) := by decide +kernel
theorem dL_law_414 : decode cL_law 414 = .ok (.iconst 1, 1) := by decide +kernel
theorem dL_law_415 : decode cL_law 415 = .ok (.iadd, 1) := by decide +kernel
theorem dL_law_416 : decode cL_law 416 = .ok (.iaload, 1) := by decide +kernel
theorem dL_law_417 : decode cL_law 417 = .ok (.aload_n 0, 1) := by decide +kernel
theorem dL_law_418 : decode cL_law 418 = .ok (.iload_n 3, 1) := by decide +kernel
theorem dL_law_419 : decode cL_law 419 = .ok (.iconst 2, 1) := by decide +kernel
theorem dL_law_420 : decode cL_law 420 = .ok (.iadd, 1) := by decide +kernel
theorem dL_law_421 : decode cL_law 421 = .ok (.iaload, 1) := by decide +kernel
theorem dL_law_422 : decode cL_law 422 = .ok (.invokevirtual 39, 3) := by decide +kernel
theorem dL_law_425 : decode cL_law 425 = .ok (.aload_n 2, 1) := by decide +kernel
theorem dL_law_426 : decode cL_law 426 = .ok (.aload_n 0, 1) := by decide +kernel
theorem dL_law_427 : decode cL_law 427 = .ok (.iload_n 3, 1) := by decide +kernel
theorem dL_law_428 : decode cL_law 428 = .ok (.iconst 1, 1) := by decide +kernel
theorem dL_law_429 : decode cL_law 429 = .ok (.iadd, 1) := by decide +kernel
theorem dL_law_430 : decode cL_law 430 = .ok (.iaload, 1) := by decide +kernel
theorem dL_law_431 : decode cL_law 431 = .ok (.aload_n 0, 1) := by decide +kernel
theorem dL_law_432 : decode cL_law 432 = .ok (.iload_n 3, 1) := by decide +kernel
theorem dL_law_433 : decode cL_law 433 = .ok (.iconst 2, 1) := by decide +kernel
theorem dL_law_434 : decode cL_law 434 = .ok (.iadd, 1) := by decide +kernel
theorem dL_law_435 : decode cL_law 435 = .ok (.iaload, 1) := by decide +kernel
theorem dL_law_436 : decode cL_law 436 = .ok (.invokevirtual 42, 3) := by decide +kernel
theorem dL_law_439 : decode cL_law 439 = .ok (.if_icmp .eq 1083, 3) := by decide +kernel
theorem dL_law_442 : decode cL_law 442 = .ok (.iconst 0, 1) := by decide +kernel
theorem dL_law_443 : decode cL_law 443 = .ok (.ireturn, 1) := by decide +kernel
theorem dL_law_444 : decode cL_law 444 = .ok (.aload_n 1, 1) := by decide +kernel
theorem dL_law_445 : decode cL_law 445 = .ok (.aload_n 0, 1) := by decide +kernel
theorem dL_law_446 : decode cL_law 446 = .ok (.iload_n 3, 1) := by decide +kernel
theorem dL_law_447 : decode cL_law 447 = .ok (.iconst 1, 1) := by decide +kernel
theorem dL_law_448 : decode cL_law 448 = .ok (.iadd, 1) := by decide +kernel
theorem dL_law_449 : decode cL_law 449 = .ok (.iaload, 1) := by decide +kernel
theorem dL_law_450 : decode cL_law 450 = .ok (.aload_n 0, 1) := by decide +kernel
theorem dL_law_451 : decode cL_law 451 = .ok (.iload_n 3, 1) := by decide +kernel
theorem dL_law_452 : decode cL_law 452 = .ok (.iconst 2, 1) := by decide +kernel
theorem dL_law_453 : decode cL_law 453 = .ok (.iadd, 1) := by decide +kernel
theorem dL_law_454 : decode cL_law 454 = .ok (.iaload, 1) := by decide +kernel
theorem dL_law_455 : decode cL_law 455 = .ok (.aload_n 0, 1) := by decide +kernel
theorem dL_law_456 : decode cL_law 456 = .ok (.iload_n 3, 1) := by decide +kernel
theorem dL_law_457 : decode cL_law 457 = .ok (.iconst 3, 1) := by decide +kernel
theorem dL_law_458 : decode cL_law 458 = .ok (.iadd, 1) := by decide +kernel
theorem dL_law_459 : decode cL_law 459 = .ok (.iaload, 1) := by decide +kernel
theorem dL_law_460 : decode cL_law 460 = .ok (.aload_n 0, 1) := by decide +kernel
theorem dL_law_461 : decode cL_law 461 = .ok (.iload_n 3, 1) := by decide +kernel
theorem dL_law_462 : decode cL_law 462 = .ok (.iconst 4, 1) := by decide +kernel
theorem dL_law_463 : decode cL_law 463 = .ok (.iadd, 1) := by decide +kernel
theorem dL_law_464 : decode cL_law 464 = .ok (.iaload, 1) := by decide +kernel
theorem dL_law_465 : decode cL_law 465 = .ok (.aload_n 0, 1) := by decide +kernel
theorem dL_law_466 : decode cL_law 466 = .ok (.iload_n 3, 1) := by decide +kernel
theorem dL_law_467 : decode cL_law 467 = .ok (.iconst 5, 1) := by decide +kernel
theorem dL_law_468 : decode cL_law 468 = .ok (.iadd, 1) := by decide +kernel
theorem dL_law_469 : decode cL_law 469 = .ok (.iaload, 1) := by decide +kernel
theorem dL_law_470 : decode cL_law 470 = .ok (.invokevirtual 43, 3) := by decide +kernel
theorem dL_law_473 : decode cL_law 473 = .ok (.aload_n 2, 1) := by decide +kernel
theorem dL_law_474 : decode cL_law 474 = .ok (.aload_n 0, 1) := by decide +kernel
theorem dL_law_475 : decode cL_law 475 = .ok (.iload_n 3, 1) := by decide +kernel
theorem dL_law_476 : decode cL_law 476 = .ok (.iconst 1, 1) := by decide +kernel
theorem dL_law_477 : decode cL_law 477 = .ok (.iadd, 1) := by decide +kernel
theorem dL_law_478 : decode cL_law 478 = .ok (.iaload, 1) := by decide +kernel
theorem dL_law_479 : decode cL_law 479 = .ok (.aload_n 0, 1) := by decide +kernel
theorem dL_law_480 : decode cL_law 480 = .ok (.iload_n 3, 1) := by decide +kernel
theorem dL_law_481 : decode cL_law 481 = .ok (.iconst 2, 1) := by decide +kernel
theorem dL_law_482 : decode cL_law 482 = .ok (.iadd, 1) := by decide +kernel
theorem dL_law_483 : decode cL_law 483 = .ok (.iaload, 1) := by decide +kernel
theorem dL_law_484 : decode cL_law 484 = .ok (.aload_n 0, 1) := by decide +kernel
theorem dL_law_485 : decode cL_law 485 = .ok (.iload_n 3, 1) := by decide +kernel
theorem dL_law_486 : decode cL_law 486 = .ok (.iconst 3, 1) := by decide +kernel
theorem dL_law_487 : decode cL_law 487 = .ok (.iadd, 1) := by decide +kernel
theorem dL_law_488 : decode cL_law 488 = .ok (.iaload, 1) := by decide +kernel
theorem dL_law_489 : decode cL_law 489 = .ok (.aload_n 0, 1) := by decide +kernel
theorem dL_law_490 : decode cL_law 490 = .ok (.iload_n 3, 1) := by decide +kernel
theorem dL_law_491 : decode cL_law 491 = .ok (.iconst 4, 1) := by decide +kernel
theorem dL_law_492 : decode cL_law 492 = .ok (.iadd, 1) := by decide +kernel
theorem dL_law_493 : decode cL_law 493 = .ok (.iaload, 1) := by decide +kernel
theorem dL_law_494 : decode cL_law 494 = .ok (.aload_n 0, 1) := by decide +kernel
theorem dL_law_495 : decode cL_law 495 = .ok (.iload_n 3, 1) := by decide +kernel
theorem dL_law_496 : decode cL_law 496 = .ok (.iconst 5, 1) := by decide +kernel
theorem dL_law_497 : decode cL_law 497 = .ok (.iadd, 1) := by decide +kernel
theorem dL_law_498 : decode cL_law 498 = .ok (.iaload, 1) := by decide +kernel
theorem dL_law_499 : decode cL_law 499 = .ok (.invokevirtual 47, 3) := by decide +kernel
theorem dL_law_502 : decode cL_law 502 = .ok (.if_icmp .eq 1020, 3) := by decide +kernel
theorem dL_law_505 : decode cL_law 505 = .ok (.iconst 0, 1) := by decide +kernel
theorem dL_law_506 : decode cL_law 506 = .ok (.ireturn, 1) := by decide +kernel
theorem dL_law_507 : decode cL_law 507 = .ok (.aload_n 1, 1) := by decide +kernel
theorem dL_law_508 : decode cL_law 508 = .ok (.aload_n 0, 1) := by decide +kernel
theorem dL_law_509 : decode cL_law 509 = .ok (.iload_n 3, 1) := by decide +kernel
theorem dL_law_510 : decode cL_law 510 = .ok (.iconst 1, 1) := by decide +kernel
theorem dL_law_511 : decode cL_law 511 = .ok (.iadd, 1) := by decide +kernel
theorem dL_law_512 : decode cL_law 512 = .ok (.iaload, 1) := by decide +kernel
theorem dL_law_513 : decode cL_law 513 = .ok (.aload_n 0, 1) := by decide +kernel
theorem dL_law_514 : decode cL_law 514 = .ok (.iload_n 3, 1) := by decide +kernel
theorem dL_law_515 : decode cL_law 515 = .ok (.iconst 2, 1) := by decide +kernel
theorem dL_law_516 : decode cL_law 516 = .ok (.iadd, 1) := by decide +kernel
theorem dL_law_517 : decode cL_law 517 = .ok (.iaload, 1) := by decide +kernel
theorem dL_law_518 : decode cL_law 518 = .ok (.invokevirtual 48, 3) := by decide +kernel
theorem dL_law_521 : decode cL_law 521 = .ok (.aload_n 2, 1) := by decide +kernel
theorem dL_law_522 : decode cL_law 522 = .ok (.aload_n 0, 1) := by decide +kernel
theorem dL_law_523 : decode cL_law 523 = .ok (.iload_n 3, 1) := by decide +kernel
theorem dL_law_524 : decode cL_law 524 = .ok (.iconst 1, 1) := by decide +kernel
theorem dL_law_525 : decode cL_law 525 = .ok (.iadd, 1) := by decide +kernel
theorem dL_law_526 : decode cL_law 526 = .ok (.iaload, 1) := by decide +kernel
theorem dL_law_527 : decode cL_law 527 = .ok (.aload_n 0, 1) := by decide +kernel
theorem dL_law_528 : decode cL_law 528 = .ok (.iload_n 3, 1) := by decide +kernel
theorem dL_law_529 : decode cL_law 529 = .ok (.iconst 2, 1) := by decide +kernel
theorem dL_law_530 : decode cL_law 530 = .ok (.iadd, 1) := by decide +kernel
theorem dL_law_531 : decode cL_law 531 = .ok (.iaload, 1) := by decide +kernel
theorem dL_law_532 : decode cL_law 532 = .ok (.invokevirtual 51, 3) := by decide +kernel
theorem dL_law_535 : decode cL_law 535 = .ok (.if_icmp .eq 987, 3) := by decide +kernel
theorem dL_law_538 : decode cL_law 538 = .ok (.iconst 0, 1) := by decide +kernel
theorem dL_law_539 : decode cL_law 539 = .ok (.ireturn, 1) := by decide +kernel
theorem dL_law_540 : decode cL_law 540 = .ok (.aload_n 1, 1) := by decide +kernel
theorem dL_law_541 : decode cL_law 541 = .ok (.aload_n 0, 1) := by decide +kernel
theorem dL_law_542 : decode cL_law 542 = .ok (.iload_n 3, 1) := by decide +kernel
theorem dL_law_543 : decode cL_law 543 = .ok (.iconst 1, 1) := by decide +kernel
theorem dL_law_544 : decode cL_law 544 = .ok (.iadd, 1) := by decide +kernel
theorem dL_law_545 : decode cL_law 545 = .ok (.iaload, 1) := by decide +kernel
theorem dL_law_546 : decode cL_law 546 = .ok (.aload_n 0, 1) := by decide +kernel
theorem dL_law_547 : decode cL_law 547 = .ok (.iload_n 3, 1) := by decide +kernel
theorem dL_law_548 : decode cL_law 548 = .ok (.iconst 2, 1) := by decide +kernel
theorem dL_law_549 : decode cL_law 549 = .ok (.iadd, 1) := by decide +kernel
theorem dL_law_550 : decode cL_law 550 = .ok (.iaload, 1) := by decide +kernel
theorem dL_law_551 : decode cL_law 551 = .ok (.aload_n 0, 1) := by decide +kernel
theorem dL_law_552 : decode cL_law 552 = .ok (.iload_n 3, 1) := by decide +kernel
theorem dL_law_553 : decode cL_law 553 = .ok (.iconst 3, 1) := by decide +kernel
theorem dL_law_554 : decode cL_law 554 = .ok (.iadd, 1) := by decide +kernel
theorem dL_law_555 : decode cL_law 555 = .ok (.iaload, 1) := by decide +kernel
theorem dL_law_556 : decode cL_law 556 = .ok (.invokevirtual 52, 3) := by decide +kernel
theorem dL_law_559 : decode cL_law 559 = .ok (.aload_n 2, 1) := by decide +kernel
theorem dL_law_560 : decode cL_law 560 = .ok (.aload_n 0, 1) := by decide +kernel
theorem dL_law_561 : decode cL_law 561 = .ok (.iload_n 3, 1) := by decide +kernel
theorem dL_law_562 : decode cL_law 562 = .ok (.iconst 1, 1) := by decide +kernel
theorem dL_law_563 : decode cL_law 563 = .ok (.iadd, 1) := by decide +kernel
theorem dL_law_564 : decode cL_law 564 = .ok (.iaload, 1) := by decide +kernel
theorem dL_law_565 : decode cL_law 565 = .ok (.aload_n 0, 1) := by decide +kernel
theorem dL_law_566 : decode cL_law 566 = .ok (.iload_n 3, 1) := by decide +kernel
theorem dL_law_567 : decode cL_law 567 = .ok (.iconst 2, 1) := by decide +kernel
theorem dL_law_568 : decode cL_law 568 = .ok (.iadd, 1) := by decide +kernel
theorem dL_law_569 : decode cL_law 569 = .ok (.iaload, 1) := by decide +kernel
theorem dL_law_570 : decode cL_law 570 = .ok (.aload_n 0, 1) := by decide +kernel
theorem dL_law_571 : decode cL_law 571 = .ok (.iload_n 3, 1) := by decide +kernel
theorem dL_law_572 : decode cL_law 572 = .ok (.iconst 3, 1) := by decide +kernel
theorem dL_law_573 : decode cL_law 573 = .ok (.iadd, 1) := by decide +kernel
theorem dL_law_574 : decode cL_law 574 = .ok (.iaload, 1) := by decide +kernel
theorem dL_law_575 : decode cL_law 575 = .ok (.invokevirtual 56, 3) := by decide +kernel
theorem dL_law_578 : decode cL_law 578 = .ok (.if_icmp .eq 944, 3) := by decide +kernel
theorem dL_law_581 : decode cL_law 581 = .ok (.iconst 0, 1) := by decide +kernel
theorem dL_law_582 : decode cL_law 582 = .ok (.ireturn, 1) := by decide +kernel
theorem dL_law_583 : decode cL_law 583 = .ok (.aload_n 1, 1) := by decide +kernel
theorem dL_law_584 : decode cL_law 584 = .ok (.aload_n 0, 1) := by decide +kernel
theorem dL_law_585 : decode cL_law 585 = .ok (.iload_n 3, 1) := by decide +kernel
theorem dL_law_586 : decode cL_law 586 = .ok (.iconst 1, 1) := by decide +kernel
theorem dL_law_587 : decode cL_law 587 = .ok (.iadd, 1) := by decide +kernel
theorem dL_law_588 : decode cL_law 588 = .ok (.iaload, 1) := by decide +kernel
theorem dL_law_589 : decode cL_law 589 = .ok (.aload_n 0, 1) := by decide +kernel
theorem dL_law_590 : decode cL_law 590 = .ok (.iload_n 3, 1) := by decide +kernel
theorem dL_law_591 : decode cL_law 591 = .ok (.iconst 2, 1) := by decide +kernel
theorem dL_law_592 : decode cL_law 592 = .ok (.iadd, 1) := by decide +kernel
theorem dL_law_593 : decode cL_law 593 = .ok (.iaload, 1) := by decide +kernel
theorem dL_law_594 : decode cL_law 594 = .ok (.invokevirtual 57, 3) := by decide +kernel
theorem dL_law_597 : decode cL_law 597 = .ok (.aload_n 2, 1) := by decide +kernel
theorem dL_law_598 : decode cL_law 598 = .ok (.aload_n 0, 1) := by decide +kernel
theorem dL_law_599 : decode cL_law 599 = .ok (.iload_n 3, 1) := by decide +kernel
theorem dL_law_600 : decode cL_law 600 = .ok (.iconst 1, 1) := by decide +kernel
theorem dL_law_601 : decode cL_law 601 = .ok (.iadd, 1) := by decide +kernel
theorem dL_law_602 : decode cL_law 602 = .ok (.iaload, 1) := by decide +kernel
theorem dL_law_603 : decode cL_law 603 = .ok (.aload_n 0, 1) := by decide +kernel
theorem dL_law_604 : decode cL_law 604 = .ok (.iload_n 3, 1) := by decide +kernel
theorem dL_law_605 : decode cL_law 605 = .ok (.iconst 2, 1) := by decide +kernel
theorem dL_law_606 : decode cL_law 606 = .ok (.iadd, 1) := by decide +kernel
theorem dL_law_607 : decode cL_law 607 = .ok (.iaload, 1) := by decide +kernel
theorem dL_law_608 : decode cL_law 608 = .ok (.invokevirtual 60, 3) := by decide +kernel
theorem dL_law_611 : decode cL_law 611 = .ok (.if_icmp .eq 911, 3) := by decide +kernel
theorem dL_law_614 : decode cL_law 614 = .ok (.iconst 0, 1) := by decide +kernel
theorem dL_law_615 : decode cL_law 615 = .ok (.ireturn, 1) := by decide +kernel
theorem dL_law_616 : decode cL_law 616 = .ok (.aload_n 1, 1) := by decide +kernel
theorem dL_law_617 : decode cL_law 617 = .ok (.aload_n 0, 1) := by decide +kernel
theorem dL_law_618 : decode cL_law 618 = .ok (.iload_n 3, 1) := by decide +kernel
theorem dL_law_619 : decode cL_law 619 = .ok (.iconst 1, 1) := by decide +kernel
theorem dL_law_620 : decode cL_law 620 = .ok (.iadd, 1) := by decide +kernel
theorem dL_law_621 : decode cL_law 621 = .ok (.iaload, 1) := by decide +kernel
theorem dL_law_622 : decode cL_law 622 = .ok (.aload_n 0, 1) := by decide +kernel
theorem dL_law_623 : decode cL_law 623 = .ok (.iload_n 3, 1) := by decide +kernel
theorem dL_law_624 : decode cL_law 624 = .ok (.iconst 2, 1) := by decide +kernel
theorem dL_law_625 : decode cL_law 625 = .ok (.iadd, 1) := by decide +kernel
theorem dL_law_626 : decode cL_law 626 = .ok (.iaload, 1) := by decide +kernel
theorem dL_law_627 : decode cL_law 627 = .ok (.invokevirtual 61, 3) := by decide +kernel
theorem dL_law_630 : decode cL_law 630 = .ok (.aload_n 2, 1) := by decide +kernel
theorem dL_law_631 : decode cL_law 631 = .ok (.aload_n 0, 1) := by decide +kernel
theorem dL_law_632 : decode cL_law 632 = .ok (.iload_n 3, 1) := by decide +kernel
theorem dL_law_633 : decode cL_law 633 = .ok (.iconst 1, 1) := by decide +kernel
theorem dL_law_634 : decode cL_law 634 = .ok (.iadd, 1) := by decide +kernel
theorem dL_law_635 : decode cL_law 635 = .ok (.iaload, 1) := by decide +kernel
theorem dL_law_636 : decode cL_law 636 = .ok (.aload_n 0, 1) := by decide +kernel
theorem dL_law_637 : decode cL_law 637 = .ok (.iload_n 3, 1) := by decide +kernel
theorem dL_law_638 : decode cL_law 638 = .ok (.iconst 2, 1) := by decide +kernel
theorem dL_law_639 : decode cL_law 639 = .ok (.iadd, 1) := by decide +kernel
theorem dL_law_640 : decode cL_law 640 = .ok (.iaload, 1) := by decide +kernel
theorem dL_law_641 : decode cL_law 641 = .ok (.invokevirtual 64, 3) := by decide +kernel
theorem dL_law_644 : decode cL_law 644 = .ok (.if_icmp .eq 878, 3) := by decide +kernel
theorem dL_law_647 : decode cL_law 647 = .ok (.iconst 0, 1) := by decide +kernel
theorem dL_law_648 : decode cL_law 648 = .ok (.ireturn, 1) := by decide +kernel
theorem dL_law_649 : decode cL_law 649 = .ok (.aload_n 1, 1) := by decide +kernel
theorem dL_law_650 : decode cL_law 650 = .ok (.aload_n 0, 1) := by decide +kernel
theorem dL_law_651 : decode cL_law 651 = .ok (.iload_n 3, 1) := by decide +kernel
theorem dL_law_652 : decode cL_law 652 = .ok (.iconst 1, 1) := by decide +kernel
theorem dL_law_653 : decode cL_law 653 = .ok (.iadd, 1) := by decide +kernel
theorem dL_law_654 : decode cL_law 654 = .ok (.iaload, 1) := by decide +kernel
theorem dL_law_655 : decode cL_law 655 = .ok (.invokevirtual 65, 3) := by decide +kernel
theorem dL_law_658 : decode cL_law 658 = .ok (.aload_n 2, 1) := by decide +kernel
theorem dL_law_659 : decode cL_law 659 = .ok (.aload_n 0, 1) := by decide +kernel
theorem dL_law_660 : decode cL_law 660 = .ok (.iload_n 3, 1) := by decide +kernel
theorem dL_law_661 : decode cL_law 661 = .ok (.iconst 1, 1) := by decide +kernel
theorem dL_law_662 : decode cL_law 662 = .ok (.iadd, 1) := by decide +kernel
theorem dL_law_663 : decode cL_law 663 = .ok (.iaload, 1) := by decide +kernel
theorem dL_law_664 : decode cL_law 664 = .ok (.invokevirtual 69, 3) := by decide +kernel
theorem dL_law_667 : decode cL_law 667 = .ok (.if_icmp .eq 855, 3) := by decide +kernel
theorem dL_law_670 : decode cL_law 670 = .ok (.iconst 0, 1) := by decide +kernel
theorem dL_law_671 : decode cL_law 671 = .ok (.ireturn, 1) := by decide +kernel
theorem dL_law_672 : decode cL_law 672 = .ok (.aload_n 1, 1) := by decide +kernel
theorem dL_law_673 : decode cL_law 673 = .ok (.aload_n 0, 1) := by decide +kernel
theorem dL_law_674 : decode cL_law 674 = .ok (.iload_n 3, 1) := by decide +kernel
theorem dL_law_675 : decode cL_law 675 = .ok (.iconst 1, 1) := by decide +kernel
theorem dL_law_676 : decode cL_law 676 = .ok (.iadd, 1) := by decide +kernel
theorem dL_law_677 : decode cL_law 677 = .ok (.iaload, 1) := by decide +kernel
theorem dL_law_678 : decode cL_law 678 = .ok (.invokevirtual 70, 3) := by decide +kernel
theorem dL_law_681 : decode cL_law 681 = .ok (.aload_n 2, 1) := by decide +kernel
theorem dL_law_682 : decode cL_law 682 = .ok (.aload_n 0, 1) := by decide +kernel
theorem dL_law_683 : decode cL_law 683 = .ok (.iload_n 3, 1) := by decide +kernel
theorem dL_law_684 : decode cL_law 684 = .ok (.iconst 1, 1) := by decide +kernel
theorem dL_law_685 : decode cL_law 685 = .ok (.iadd, 1) := by decide +kernel
theorem dL_law_686 : decode cL_law 686 = .ok (.iaload, 1) := by decide +kernel
theorem dL_law_687 : decode cL_law 687 = .ok (.invokevirtual 73, 3) := by decide +kernel
theorem dL_law_690 : decode cL_law 690 = .ok (.if_icmp .eq 832, 3) := by decide +kernel
theorem dL_law_693 : decode cL_law 693 = .ok (.iconst 0, 1) := by decide +kernel
theorem dL_law_694 : decode cL_law 694 = .ok (.ireturn, 1) := by decide +kernel
theorem dL_law_695 : decode cL_law 695 = .ok (.aload_n 1, 1) := by decide +kernel
theorem dL_law_696 : decode cL_law 696 = .ok (.aload_n 0, 1) := by decide +kernel
theorem dL_law_697 : decode cL_law 697 = .ok (.iload_n 3, 1) := by decide +kernel
theorem dL_law_698 : decode cL_law 698 = .ok (.iconst 1, 1) := by decide +kernel
theorem dL_law_699 : decode cL_law 699 = .ok (.iadd, 1) := by decide +kernel
theorem dL_law_700 : decode cL_law 700 = .ok (.iaload, 1) := by decide +kernel
theorem dL_law_701 : decode cL_law 701 = .ok (.aload_n 0, 1) := by decide +kernel
theorem dL_law_702 : decode cL_law 702 = .ok (.iload_n 3, 1) := by decide +kernel
theorem dL_law_703 : decode cL_law 703 = .ok (.iconst 2, 1) := by decide +kernel
theorem dL_law_704 : decode cL_law 704 = .ok (.iadd, 1) := by decide +kernel
theorem dL_law_705 : decode cL_law 705 = .ok (.iaload, 1) := by decide +kernel
theorem dL_law_706 : decode cL_law 706 = .ok (.invokevirtual 74, 3) := by decide +kernel
theorem dL_law_709 : decode cL_law 709 = .ok (.aload_n 2, 1) := by decide +kernel
theorem dL_law_710 : decode cL_law 710 = .ok (.aload_n 0, 1) := by decide +kernel
theorem dL_law_711 : decode cL_law 711 = .ok (.iload_n 3, 1) := by decide +kernel
theorem dL_law_712 : decode cL_law 712 = .ok (.iconst 1, 1) := by decide +kernel
theorem dL_law_713 : decode cL_law 713 = .ok (.iadd, 1) := by decide +kernel
theorem dL_law_714 : decode cL_law 714 = .ok (.iaload, 1) := by decide +kernel
theorem dL_law_715 : decode cL_law 715 = .ok (.aload_n 0, 1) := by decide +kernel
theorem dL_law_716 : decode cL_law 716 = .ok (.iload_n 3, 1) := by decide +kernel
theorem dL_law_717 : decode cL_law 717 = .ok (.iconst 2, 1) := by decide +kernel
theorem dL_law_718 : decode cL_law 718 = .ok (.iadd, 1) := by decide +kernel
theorem dL_law_719 : decode cL_law 719 = .ok (.iaload, 1) := by decide +kernel
theorem dL_law_720 : decode cL_law 720 = .ok (.invokevirtual 77, 3) := by decide +kernel
theorem dL_law_723 : decode cL_law 723 = .ok (.if_icmp .eq 799, 3) := by decide +kernel
theorem dL_law_726 : decode cL_law 726 = .ok (.iconst 0, 1) := by decide +kernel
theorem dL_law_727 : decode cL_law 727 = .ok (.ireturn, 1) := by decide +kernel
theorem dL_law_728 : decode cL_law 728 = .ok (.aload_n 1, 1) := by decide +kernel
theorem dL_law_729 : decode cL_law 729 = .ok (.aload_n 0, 1) := by decide +kernel
theorem dL_law_730 : decode cL_law 730 = .ok (.iload_n 3, 1) := by decide +kernel
theorem dL_law_731 : decode cL_law 731 = .ok (.iconst 1, 1) := by decide +kernel
theorem dL_law_732 : decode cL_law 732 = .ok (.iadd, 1) := by decide +kernel
theorem dL_law_733 : decode cL_law 733 = .ok (.iaload, 1) := by decide +kernel
theorem dL_law_734 : decode cL_law 734 = .ok (.invokevirtual 78, 3) := by decide +kernel
theorem dL_law_737 : decode cL_law 737 = .ok (.aload_n 2, 1) := by decide +kernel
theorem dL_law_738 : decode cL_law 738 = .ok (.aload_n 0, 1) := by decide +kernel
theorem dL_law_739 : decode cL_law 739 = .ok (.iload_n 3, 1) := by decide +kernel
theorem dL_law_740 : decode cL_law 740 = .ok (.iconst 1, 1) := by decide +kernel
theorem dL_law_741 : decode cL_law 741 = .ok (.iadd, 1) := by decide +kernel
theorem dL_law_742 : decode cL_law 742 = .ok (.iaload, 1) := by decide +kernel
theorem dL_law_743 : decode cL_law 743 = .ok (.invokevirtual 81, 3) := by decide +kernel
theorem dL_law_746 : decode cL_law 746 = .ok (.if_icmp .eq 776, 3) := by decide +kernel
theorem dL_law_749 : decode cL_law 749 = .ok (.iconst 0, 1) := by decide +kernel
theorem dL_law_750 : decode cL_law 750 = .ok (.ireturn, 1) := by decide +kernel
theorem dL_law_751 : decode cL_law 751 = .ok (.aload_n 1, 1) := by decide +kernel
theorem dL_law_752 : decode cL_law 752 = .ok (.aload_n 0, 1) := by decide +kernel
theorem dL_law_753 : decode cL_law 753 = .ok (.iload_n 3, 1) := by decide +kernel
theorem dL_law_754 : decode cL_law 754 = .ok (.iconst 1, 1) := by decide +kernel
theorem dL_law_755 : decode cL_law 755 = .ok (.iadd, 1) := by decide +kernel
theorem dL_law_756 : decode cL_law 756 = .ok (.iaload, 1) := by decide +kernel
theorem dL_law_757 : decode cL_law 757 = .ok (.invokevirtual 82, 3) := by decide +kernel
theorem dL_law_760 : decode cL_law 760 = .ok (.aload_n 2, 1) := by decide +kernel
theorem dL_law_761 : decode cL_law 761 = .ok (.aload_n 0, 1) := by decide +kernel
theorem dL_law_762 : decode cL_law 762 = .ok (.iload_n 3, 1) := by decide +kernel
theorem dL_law_763 : decode cL_law 763 = .ok (.iconst 1, 1) := by decide +kernel
theorem dL_law_764 : decode cL_law 764 = .ok (.iadd, 1) := by decide +kernel
theorem dL_law_765 : decode cL_law 765 = .ok (.iaload, 1) := by decide +kernel
theorem dL_law_766 : decode cL_law 766 = .ok (.invokevirtual 85, 3) := by decide +kernel
theorem dL_law_769 : decode cL_law 769 = .ok (.if_icmp .eq 753, 3) := by decide +kernel
theorem dL_law_772 : decode cL_law 772 = .ok (.iconst 0, 1) := by decide +kernel
theorem dL_law_773 : decode cL_law 773 = .ok (.ireturn, 1) := by decide +kernel
theorem dL_law_774 : decode cL_law 774 = .ok (.aload_n 1, 1) := by decide +kernel
theorem dL_law_775 : decode cL_law 775 = .ok (.aload_n 0, 1) := by decide +kernel
theorem dL_law_776 : decode cL_law 776 = .ok (.iload_n 3, 1) := by decide +kernel
theorem dL_law_777 : decode cL_law 777 = .ok (.iconst 1, 1) := by decide +kernel
theorem dL_law_778 : decode cL_law 778 = .ok (.iadd, 1) := by decide +kernel
theorem dL_law_779 : decode cL_law 779 = .ok (.iaload, 1) := by decide +kernel
theorem dL_law_780 : decode cL_law 780 = .ok (.invokevirtual 86, 3) := by decide +kernel
theorem dL_law_783 : decode cL_law 783 = .ok (.aload_n 2, 1) := by decide +kernel
theorem dL_law_784 : decode cL_law 784 = .ok (.aload_n 0, 1) := by decide +kernel
theorem dL_law_785 : decode cL_law 785 = .ok (.iload_n 3, 1) := by decide +kernel
theorem dL_law_786 : decode cL_law 786 = .ok (.iconst 1, 1) := by decide +kernel
theorem dL_law_787 : decode cL_law 787 = .ok (.iadd, 1) := by decide +kernel
theorem dL_law_788 : decode cL_law 788 = .ok (.iaload, 1) := by decide +kernel
theorem dL_law_789 : decode cL_law 789 = .ok (.invokevirtual 89, 3) := by decide +kernel
theorem dL_law_792 : decode cL_law 792 = .ok (.if_icmp .eq 730, 3) := by decide +kernel
theorem dL_law_795 : decode cL_law 795 = .ok (.iconst 0, 1) := by decide +kernel
theorem dL_law_796 : decode cL_law 796 = .ok (.ireturn, 1) := by decide +kernel
theorem dL_law_797 : decode cL_law 797 = .ok (.aload_n 1, 1) := by decide +kernel
theorem dL_law_798 : decode cL_law 798 = .ok (.aload_n 0, 1) := by decide +kernel
theorem dL_law_799 : decode cL_law 799 = .ok (.iload_n 3, 1) := by decide +kernel
theorem dL_law_800 : decode cL_law 800 = .ok (.iconst 1, 1) := by decide +kernel
theorem dL_law_801 : decode cL_law 801 = .ok (.iadd, 1) := by decide +kernel
theorem dL_law_802 : decode cL_law 802 = .ok (.iaload, 1) := by decide +kernel
theorem dL_law_803 : decode cL_law 803 = .ok (.invokevirtual 90, 3) := by decide +kernel
theorem dL_law_806 : decode cL_law 806 = .ok (.aload_n 2, 1) := by decide +kernel
theorem dL_law_807 : decode cL_law 807 = .ok (.aload_n 0, 1) := by decide +kernel
theorem dL_law_808 : decode cL_law 808 = .ok (.iload_n 3, 1) := by decide +kernel
theorem dL_law_809 : decode cL_law 809 = .ok (.iconst 1, 1) := by decide +kernel
theorem dL_law_810 : decode cL_law 810 = .ok (.iadd, 1) := by decide +kernel
theorem dL_law_811 : decode cL_law 811 = .ok (.iaload, 1) := by decide +kernel
theorem dL_law_812 : decode cL_law 812 = .ok (.invokevirtual 93, 3) := by decide +kernel
theorem dL_law_815 : decode cL_law 815 = .ok (.if_icmp .eq 707, 3) := by decide +kernel
theorem dL_law_818 : decode cL_law 818 = .ok (.iconst 0, 1) := by decide +kernel
theorem dL_law_819 : decode cL_law 819 = .ok (.ireturn, 1) := by decide +kernel
theorem dL_law_820 : decode cL_law 820 = .ok (.aload_n 1, 1) := by decide +kernel
theorem dL_law_821 : decode cL_law 821 = .ok (.aload_n 0, 1) := by decide +kernel
theorem dL_law_822 : decode cL_law 822 = .ok (.iload_n 3, 1) := by decide +kernel
theorem dL_law_823 : decode cL_law 823 = .ok (.iconst 1, 1) := by decide +kernel
theorem dL_law_824 : decode cL_law 824 = .ok (.iadd, 1) := by decide +kernel
theorem dL_law_825 : decode cL_law 825 = .ok (.iaload, 1) := by decide +kernel
theorem dL_law_826 : decode cL_law 826 = .ok (.invokevirtual 94, 3) := by decide +kernel
theorem dL_law_829 : decode cL_law 829 = .ok (.aload_n 2, 1) := by decide +kernel
theorem dL_law_830 : decode cL_law 830 = .ok (.aload_n 0, 1) := by decide +kernel
theorem dL_law_831 : decode cL_law 831 = .ok (.iload_n 3, 1) := by decide +kernel
theorem dL_law_832 : decode cL_law 832 = .ok (.iconst 1, 1) := by decide +kernel
theorem dL_law_833 : decode cL_law 833 = .ok (.iadd, 1) := by decide +kernel
theorem dL_law_834 : decode cL_law 834 = .ok (.iaload, 1) := by decide +kernel
theorem dL_law_835 : decode cL_law 835 = .ok (.invokevirtual 97, 3) := by decide +kernel
theorem dL_law_838 : decode cL_law 838 = .ok (.if_icmp .eq 684, 3) := by decide +kernel
theorem dL_law_841 : decode cL_law 841 = .ok (.iconst 0, 1) := by decide +kernel
theorem dL_law_842 : decode cL_law 842 = .ok (.ireturn, 1) := by decide +kernel
theorem dL_law_843 : decode cL_law 843 = .ok (.aload_n 1, 1) := by decide +kernel
theorem dL_law_844 : decode cL_law 844 = .ok (.invokevirtual 98, 3) := by decide +kernel
theorem dL_law_847 : decode cL_law 847 = .ok (.aload_n 2, 1) := by decide +kernel
theorem dL_law_848 : decode cL_law 848 = .ok (.invokevirtual 101, 3) := by decide +kernel
theorem dL_law_851 : decode cL_law 851 = .ok (.if_icmp .eq 671, 3) := by decide +kernel
theorem dL_law_854 : decode cL_law 854 = .ok (.iconst 0, 1) := by decide +kernel
theorem dL_law_855 : decode cL_law 855 = .ok (.ireturn, 1) := by decide +kernel
theorem dL_law_856 : decode cL_law 856 = .ok (.aload_n 1, 1) := by decide +kernel
theorem dL_law_857 : decode cL_law 857 = .ok (.aload_n 0, 1) := by decide +kernel
theorem dL_law_858 : decode cL_law 858 = .ok (.iload_n 3, 1) := by decide +kernel
theorem dL_law_859 : decode cL_law 859 = .ok (.iconst 1, 1) := by decide +kernel
theorem dL_law_860 : decode cL_law 860 = .ok (.iadd, 1) := by decide +kernel
theorem dL_law_861 : decode cL_law 861 = .ok (.iaload, 1) := by decide +kernel
theorem dL_law_862 : decode cL_law 862 = .ok (.aload_n 0, 1) := by decide +kernel
theorem dL_law_863 : decode cL_law 863 = .ok (.iload_n 3, 1) := by decide +kernel
theorem dL_law_864 : decode cL_law 864 = .ok (.iconst 2, 1) := by decide +kernel
theorem dL_law_865 : decode cL_law 865 = .ok (.iadd, 1) := by decide +kernel
theorem dL_law_866 : decode cL_law 866 = .ok (.iaload, 1) := by decide +kernel
theorem dL_law_867 : decode cL_law 867 = .ok (.invokevirtual 102, 3) := by decide +kernel
theorem dL_law_870 : decode cL_law 870 = .ok (.aload_n 2, 1) := by decide +kernel
theorem dL_law_871 : decode cL_law 871 = .ok (.aload_n 0, 1) := by decide +kernel
theorem dL_law_872 : decode cL_law 872 = .ok (.iload_n 3, 1) := by decide +kernel
theorem dL_law_873 : decode cL_law 873 = .ok (.iconst 1, 1) := by decide +kernel
theorem dL_law_874 : decode cL_law 874 = .ok (.iadd, 1) := by decide +kernel
theorem dL_law_875 : decode cL_law 875 = .ok (.iaload, 1) := by decide +kernel
theorem dL_law_876 : decode cL_law 876 = .ok (.aload_n 0, 1) := by decide +kernel
theorem dL_law_877 : decode cL_law 877 = .ok (.iload_n 3, 1) := by decide +kernel
theorem dL_law_878 : decode cL_law 878 = .ok (.iconst 2, 1) := by decide +kernel
theorem dL_law_879 : decode cL_law 879 = .ok (.iadd, 1) := by decide +kernel
theorem dL_law_880 : decode cL_law 880 = .ok (.iaload, 1) := by decide +kernel
theorem dL_law_881 : decode cL_law 881 = .ok (.invokevirtual 106, 3) := by decide +kernel
theorem dL_law_884 : decode cL_law 884 = .ok (.lcmp, 1) := by decide +kernel
theorem dL_law_885 : decode cL_law 885 = .ok (.ifCond .eq 637, 3) := by decide +kernel
theorem dL_law_888 : decode cL_law 888 = .ok (.iconst 0, 1) := by decide +kernel
theorem dL_law_889 : decode cL_law 889 = .ok (.ireturn, 1) := by decide +kernel
theorem dL_law_890 : decode cL_law 890 = .ok (.aload_n 1, 1) := by decide +kernel
theorem dL_law_891 : decode cL_law 891 = .ok (.aload_n 0, 1) := by decide +kernel
theorem dL_law_892 : decode cL_law 892 = .ok (.iload_n 3, 1) := by decide +kernel
theorem dL_law_893 : decode cL_law 893 = .ok (.iconst 1, 1) := by decide +kernel
theorem dL_law_894 : decode cL_law 894 = .ok (.iadd, 1) := by decide +kernel
theorem dL_law_895 : decode cL_law 895 = .ok (.iaload, 1) := by decide +kernel
theorem dL_law_896 : decode cL_law 896 = .ok (.invokevirtual 107, 3) := by decide +kernel
theorem dL_law_899 : decode cL_law 899 = .ok (.aload_n 2, 1) := by decide +kernel
theorem dL_law_900 : decode cL_law 900 = .ok (.aload_n 0, 1) := by decide +kernel
theorem dL_law_901 : decode cL_law 901 = .ok (.iload_n 3, 1) := by decide +kernel
theorem dL_law_902 : decode cL_law 902 = .ok (.iconst 1, 1) := by decide +kernel
theorem dL_law_903 : decode cL_law 903 = .ok (.iadd, 1) := by decide +kernel
theorem dL_law_904 : decode cL_law 904 = .ok (.iaload, 1) := by decide +kernel
theorem dL_law_905 : decode cL_law 905 = .ok (.invokevirtual 110, 3) := by decide +kernel
theorem dL_law_908 : decode cL_law 908 = .ok (.if_icmp .eq 614, 3) := by decide +kernel
theorem dL_law_911 : decode cL_law 911 = .ok (.iconst 0, 1) := by decide +kernel
theorem dL_law_912 : decode cL_law 912 = .ok (.ireturn, 1) := by decide +kernel
theorem dL_law_913 : decode cL_law 913 = .ok (.aload_n 1, 1) := by decide +kernel
theorem dL_law_914 : decode cL_law 914 = .ok (.aload_n 0, 1) := by decide +kernel
theorem dL_law_915 : decode cL_law 915 = .ok (.iload_n 3, 1) := by decide +kernel
theorem dL_law_916 : decode cL_law 916 = .ok (.iconst 1, 1) := by decide +kernel
theorem dL_law_917 : decode cL_law 917 = .ok (.iadd, 1) := by decide +kernel
theorem dL_law_918 : decode cL_law 918 = .ok (.iaload, 1) := by decide +kernel
theorem dL_law_919 : decode cL_law 919 = .ok (.invokevirtual 111, 3) := by decide +kernel
theorem dL_law_922 : decode cL_law 922 = .ok (.aload_n 2, 1) := by decide +kernel
theorem dL_law_923 : decode cL_law 923 = .ok (.aload_n 0, 1) := by decide +kernel
theorem dL_law_924 : decode cL_law 924 = .ok (.iload_n 3, 1) := by decide +kernel
theorem dL_law_925 : decode cL_law 925 = .ok (.iconst 1, 1) := by decide +kernel
theorem dL_law_926 : decode cL_law 926 = .ok (.iadd, 1) := by decide +kernel
theorem dL_law_927 : decode cL_law 927 = .ok (.iaload, 1) := by decide +kernel
theorem dL_law_928 : decode cL_law 928 = .ok (.invokevirtual 114, 3) := by decide +kernel
theorem dL_law_931 : decode cL_law 931 = .ok (.if_icmp .eq 591, 3) := by decide +kernel
theorem dL_law_934 : decode cL_law 934 = .ok (.iconst 0, 1) := by decide +kernel
theorem dL_law_935 : decode cL_law 935 = .ok (.ireturn, 1) := by decide +kernel
theorem dL_law_936 : decode cL_law 936 = .ok (.aload_n 1, 1) := by decide +kernel
theorem dL_law_937 : decode cL_law 937 = .ok (.aload_n 0, 1) := by decide +kernel
theorem dL_law_938 : decode cL_law 938 = .ok (.iload_n 3, 1) := by decide +kernel
theorem dL_law_939 : decode cL_law 939 = .ok (.iconst 1, 1) := by decide +kernel
theorem dL_law_940 : decode cL_law 940 = .ok (.iadd, 1) := by decide +kernel
theorem dL_law_941 : decode cL_law 941 = .ok (.iaload, 1) := by decide +kernel
theorem dL_law_942 : decode cL_law 942 = .ok (.invokevirtual 115, 3) := by decide +kernel
theorem dL_law_945 : decode cL_law 945 = .ok (.aload_n 2, 1) := by decide +kernel
theorem dL_law_946 : decode cL_law 946 = .ok (.aload_n 0, 1) := by decide +kernel
theorem dL_law_947 : decode cL_law 947 = .ok (.iload_n 3, 1) := by decide +kernel
theorem dL_law_948 : decode cL_law 948 = .ok (.iconst 1, 1) := by decide +kernel
theorem dL_law_949 : decode cL_law 949 = .ok (.iadd, 1) := by decide +kernel
theorem dL_law_950 : decode cL_law 950 = .ok (.iaload, 1) := by decide +kernel
theorem dL_law_951 : decode cL_law 951 = .ok (.invokevirtual 118, 3) := by decide +kernel
theorem dL_law_954 : decode cL_law 954 = .ok (.if_icmp .eq 568, 3) := by decide +kernel
theorem dL_law_957 : decode cL_law 957 = .ok (.iconst 0, 1) := by decide +kernel
theorem dL_law_958 : decode cL_law 958 = .ok (.ireturn, 1) := by decide +kernel
theorem dL_law_959 : decode cL_law 959 = .ok (.aload_n 1, 1) := by decide +kernel
theorem dL_law_960 : decode cL_law 960 = .ok (.aload_n 0, 1) := by decide +kernel
theorem dL_law_961 : decode cL_law 961 = .ok (.iload_n 3, 1) := by decide +kernel
theorem dL_law_962 : decode cL_law 962 = .ok (.iconst 1, 1) := by decide +kernel
theorem dL_law_963 : decode cL_law 963 = .ok (.iadd, 1) := by decide +kernel
theorem dL_law_964 : decode cL_law 964 = .ok (.iaload, 1) := by decide +kernel
theorem dL_law_965 : decode cL_law 965 = .ok (.aload_n 0, 1) := by decide +kernel
theorem dL_law_966 : decode cL_law 966 = .ok (.iload_n 3, 1) := by decide +kernel
theorem dL_law_967 : decode cL_law 967 = .ok (.iconst 2, 1) := by decide +kernel
theorem dL_law_968 : decode cL_law 968 = .ok (.iadd, 1) := by decide +kernel
theorem dL_law_969 : decode cL_law 969 = .ok (.iaload, 1) := by decide +kernel
theorem dL_law_970 : decode cL_law 970 = .ok (.aload_n 0, 1) := by decide +kernel
theorem dL_law_971 : decode cL_law 971 = .ok (.iload_n 3, 1) := by decide +kernel
theorem dL_law_972 : decode cL_law 972 = .ok (.iconst 3, 1) := by decide +kernel
theorem dL_law_973 : decode cL_law 973 = .ok (.iadd, 1) := by decide +kernel
theorem dL_law_974 : decode cL_law 974 = .ok (.iaload, 1) := by decide +kernel
theorem dL_law_975 : decode cL_law 975 = .ok (.ifCond .eq 7, 3) := by decide +kernel
theorem dL_law_978 : decode cL_law 978 = .ok (.iconst 1, 1) := by decide +kernel
theorem dL_law_979 : decode cL_law 979 = .ok (.goto 4, 3) := by decide +kernel
theorem dL_law_982 : decode cL_law 982 = .ok (.iconst 0, 1) := by decide +kernel
theorem dL_law_983 : decode cL_law 983 = .ok (.invokevirtual 119, 3) := by decide +kernel
theorem dL_law_986 : decode cL_law 986 = .ok (.aload_n 2, 1) := by decide +kernel
theorem dL_law_987 : decode cL_law 987 = .ok (.aload_n 0, 1) := by decide +kernel
theorem dL_law_988 : decode cL_law 988 = .ok (.iload_n 3, 1) := by decide +kernel
theorem dL_law_989 : decode cL_law 989 = .ok (.iconst 1, 1) := by decide +kernel
theorem dL_law_990 : decode cL_law 990 = .ok (.iadd, 1) := by decide +kernel
theorem dL_law_991 : decode cL_law 991 = .ok (.iaload, 1) := by decide +kernel
theorem dL_law_992 : decode cL_law 992 = .ok (.aload_n 0, 1) := by decide +kernel
theorem dL_law_993 : decode cL_law 993 = .ok (.iload_n 3, 1) := by decide +kernel
theorem dL_law_994 : decode cL_law 994 = .ok (.iconst 2, 1) := by decide +kernel
theorem dL_law_995 : decode cL_law 995 = .ok (.iadd, 1) := by decide +kernel
theorem dL_law_996 : decode cL_law 996 = .ok (.iaload, 1) := by decide +kernel
theorem dL_law_997 : decode cL_law 997 = .ok (.aload_n 0, 1) := by decide +kernel
theorem dL_law_998 : decode cL_law 998 = .ok (.iload_n 3, 1) := by decide +kernel
theorem dL_law_999 : decode cL_law 999 = .ok (.iconst 3, 1) := by decide +kernel
theorem dL_law_1000 : decode cL_law 1000 = .ok (.iadd, 1) := by decide +kernel
theorem dL_law_1001 : decode cL_law 1001 = .ok (.iaload, 1) := by decide +kernel
theorem dL_law_1002 : decode cL_law 1002 = .ok (.ifCond .eq 7, 3) := by decide +kernel
theorem dL_law_1005 : decode cL_law 1005 = .ok (.iconst 1, 1) := by decide +kernel
theorem dL_law_1006 : decode cL_law 1006 = .ok (.goto 4, 3) := by decide +kernel
theorem dL_law_1009 : decode cL_law 1009 = .ok (.iconst 0, 1) := by decide +kernel
theorem dL_law_1010 : decode cL_law 1010 = .ok (.invokevirtual 123, 3) := by decide +kernel
theorem dL_law_1013 : decode cL_law 1013 = .ok (.if_icmp .eq 509, 3) := by decide +kernel
theorem dL_law_1016 : decode cL_law 1016 = .ok (.iconst 0, 1) := by decide +kernel
theorem dL_law_1017 : decode cL_law 1017 = .ok (.ireturn, 1) := by decide +kernel
theorem dL_law_1018 : decode cL_law 1018 = .ok (.aload_n 1, 1) := by decide +kernel
theorem dL_law_1019 : decode cL_law 1019 = .ok (.aload_n 0, 1) := by decide +kernel
theorem dL_law_1020 : decode cL_law 1020 = .ok (.iload_n 3, 1) := by decide +kernel
theorem dL_law_1021 : decode cL_law 1021 = .ok (.iconst 1, 1) := by decide +kernel
theorem dL_law_1022 : decode cL_law 1022 = .ok (.iadd, 1) := by decide +kernel
theorem dL_law_1023 : decode cL_law 1023 = .ok (.iaload, 1) := by decide +kernel
theorem dL_law_1024 : decode cL_law 1024 = .ok (.invokevirtual 124, 3) := by decide +kernel
theorem dL_law_1027 : decode cL_law 1027 = .ok (.aload_n 2, 1) := by decide +kernel
theorem dL_law_1028 : decode cL_law 1028 = .ok (.aload_n 0, 1) := by decide +kernel
theorem dL_law_1029 : decode cL_law 1029 = .ok (.iload_n 3, 1) := by decide +kernel
theorem dL_law_1030 : decode cL_law 1030 = .ok (.iconst 1, 1) := by decide +kernel
theorem dL_law_1031 : decode cL_law 1031 = .ok (.iadd, 1) := by decide +kernel
theorem dL_law_1032 : decode cL_law 1032 = .ok (.iaload, 1) := by decide +kernel
theorem dL_law_1033 : decode cL_law 1033 = .ok (.invokevirtual 127, 3) := by decide +kernel
theorem dL_law_1036 : decode cL_law 1036 = .ok (.if_icmp .eq 486, 3) := by decide +kernel
theorem dL_law_1039 : decode cL_law 1039 = .ok (.iconst 0, 1) := by decide +kernel
theorem dL_law_1040 : decode cL_law 1040 = .ok (.ireturn, 1) := by decide +kernel
theorem dL_law_1041 : decode cL_law 1041 = .ok (.aload_n 1, 1) := by decide +kernel
theorem dL_law_1042 : decode cL_law 1042 = .ok (.aload_n 0, 1) := by decide +kernel
theorem dL_law_1043 : decode cL_law 1043 = .ok (.iload_n 3, 1) := by decide +kernel
theorem dL_law_1044 : decode cL_law 1044 = .ok (.iconst 1, 1) := by decide +kernel
theorem dL_law_1045 : decode cL_law 1045 = .ok (.iadd, 1) := by decide +kernel
theorem dL_law_1046 : decode cL_law 1046 = .ok (.iaload, 1) := by decide +kernel
theorem dL_law_1047 : decode cL_law 1047 = .ok (.invokevirtual 128, 3) := by decide +kernel
theorem dL_law_1050 : decode cL_law 1050 = .ok (.aload_n 2, 1) := by decide +kernel
theorem dL_law_1051 : decode cL_law 1051 = .ok (.aload_n 0, 1) := by decide +kernel
theorem dL_law_1052 : decode cL_law 1052 = .ok (.iload_n 3, 1) := by decide +kernel
theorem dL_law_1053 : decode cL_law 1053 = .ok (.iconst 1, 1) := by decide +kernel
theorem dL_law_1054 : decode cL_law 1054 = .ok (.iadd, 1) := by decide +kernel
theorem dL_law_1055 : decode cL_law 1055 = .ok (.iaload, 1) := by decide +kernel
theorem dL_law_1056 : decode cL_law 1056 = .ok (.invokevirtual 131, 3) := by decide +kernel
theorem dL_law_1059 : decode cL_law 1059 = .ok (.if_icmp .eq 463, 3) := by decide +kernel
theorem dL_law_1062 : decode cL_law 1062 = .ok (.iconst 0, 1) := by decide +kernel
theorem dL_law_1063 : decode cL_law 1063 = .ok (.ireturn, 1) := by decide +kernel
theorem dL_law_1064 : decode cL_law 1064 = .ok (.aload_n 1, 1) := by decide +kernel
theorem dL_law_1065 : decode cL_law 1065 = .ok (.aload_n 0, 1) := by decide +kernel
theorem dL_law_1066 : decode cL_law 1066 = .ok (.iload_n 3, 1) := by decide +kernel
theorem dL_law_1067 : decode cL_law 1067 = .ok (.iconst 1, 1) := by decide +kernel
theorem dL_law_1068 : decode cL_law 1068 = .ok (.iadd, 1) := by decide +kernel
theorem dL_law_1069 : decode cL_law 1069 = .ok (.iaload, 1) := by decide +kernel
theorem dL_law_1070 : decode cL_law 1070 = .ok (.invokevirtual 132, 3) := by decide +kernel
theorem dL_law_1073 : decode cL_law 1073 = .ok (.aload_n 2, 1) := by decide +kernel
theorem dL_law_1074 : decode cL_law 1074 = .ok (.aload_n 0, 1) := by decide +kernel
theorem dL_law_1075 : decode cL_law 1075 = .ok (.iload_n 3, 1) := by decide +kernel
theorem dL_law_1076 : decode cL_law 1076 = .ok (.iconst 1, 1) := by decide +kernel
theorem dL_law_1077 : decode cL_law 1077 = .ok (.iadd, 1) := by decide +kernel
theorem dL_law_1078 : decode cL_law 1078 = .ok (.iaload, 1) := by decide +kernel
theorem dL_law_1079 : decode cL_law 1079 = .ok (.invokevirtual 135, 3) := by decide +kernel
theorem dL_law_1082 : decode cL_law 1082 = .ok (.if_icmp .eq 440, 3) := by decide +kernel
theorem dL_law_1085 : decode cL_law 1085 = .ok (.iconst 0, 1) := by decide +kernel
theorem dL_law_1086 : decode cL_law 1086 = .ok (.ireturn, 1) := by decide +kernel
theorem dL_law_1087 : decode cL_law 1087 = .ok (.aload_n 1, 1) := by decide +kernel
theorem dL_law_1088 : decode cL_law 1088 = .ok (.invokevirtual 136, 3) := by decide +kernel
theorem dL_law_1091 : decode cL_law 1091 = .ok (.aload_n 2, 1) := by decide +kernel
theorem dL_law_1092 : decode cL_law 1092 = .ok (.invokevirtual 139, 3) := by decide +kernel
theorem dL_law_1095 : decode cL_law 1095 = .ok (.if_icmp .eq 427, 3) := by decide +kernel
theorem dL_law_1098 : decode cL_law 1098 = .ok (.iconst 0, 1) := by decide +kernel
theorem dL_law_1099 : decode cL_law 1099 = .ok (.ireturn, 1) := by decide +kernel
theorem dL_law_1100 : decode cL_law 1100 = .ok (.aload_n 1, 1) := by decide +kernel
theorem dL_law_1101 : decode cL_law 1101 = .ok (.invokevirtual 140, 3) := by decide +kernel
theorem dL_law_1104 : decode cL_law 1104 = .ok (.aload_n 2, 1) := by decide +kernel
theorem dL_law_1105 : decode cL_law 1105 = .ok (.invokevirtual 143, 3) := by decide +kernel
theorem dL_law_1108 : decode cL_law 1108 = .ok (.if_icmp .eq 414, 3) := by decide +kernel
theorem dL_law_1111 : decode cL_law 1111 = .ok (.iconst 0, 1) := by decide +kernel
theorem dL_law_1112 : decode cL_law 1112 = .ok (.ireturn, 1) := by decide +kernel
theorem dL_law_1113 : decode cL_law 1113 = .ok (.aload_n 1, 1) := by decide +kernel
theorem dL_law_1114 : decode cL_law 1114 = .ok (.aload_n 0, 1) := by decide +kernel
theorem dL_law_1115 : decode cL_law 1115 = .ok (.iload_n 3, 1) := by decide +kernel
theorem dL_law_1116 : decode cL_law 1116 = .ok (.iconst 1, 1) := by decide +kernel
theorem dL_law_1117 : decode cL_law 1117 = .ok (.iadd, 1) := by decide +kernel
theorem dL_law_1118 : decode cL_law 1118 = .ok (.iaload, 1) := by decide +kernel
theorem dL_law_1119 : decode cL_law 1119 = .ok (.aload_n 0, 1) := by decide +kernel
theorem dL_law_1120 : decode cL_law 1120 = .ok (.iload_n 3, 1) := by decide +kernel
theorem dL_law_1121 : decode cL_law 1121 = .ok (.iconst 2, 1) := by decide +kernel
theorem dL_law_1122 : decode cL_law 1122 = .ok (.iadd, 1) := by decide +kernel
theorem dL_law_1123 : decode cL_law 1123 = .ok (.iaload, 1) := by decide +kernel
theorem dL_law_1124 : decode cL_law 1124 = .ok (.invokevirtual 144, 3) := by decide +kernel
theorem dL_law_1127 : decode cL_law 1127 = .ok (.aload_n 2, 1) := by decide +kernel
theorem dL_law_1128 : decode cL_law 1128 = .ok (.aload_n 0, 1) := by decide +kernel
theorem dL_law_1129 : decode cL_law 1129 = .ok (.iload_n 3, 1) := by decide +kernel
theorem dL_law_1130 : decode cL_law 1130 = .ok (.iconst 1, 1) := by decide +kernel
theorem dL_law_1131 : decode cL_law 1131 = .ok (.iadd, 1) := by decide +kernel
theorem dL_law_1132 : decode cL_law 1132 = .ok (.iaload, 1) := by decide +kernel
theorem dL_law_1133 : decode cL_law 1133 = .ok (.aload_n 0, 1) := by decide +kernel
theorem dL_law_1134 : decode cL_law 1134 = .ok (.iload_n 3, 1) := by decide +kernel
theorem dL_law_1135 : decode cL_law 1135 = .ok (.iconst 2, 1) := by decide +kernel
theorem dL_law_1136 : decode cL_law 1136 = .ok (.iadd, 1) := by decide +kernel
theorem dL_law_1137 : decode cL_law 1137 = .ok (.iaload, 1) := by decide +kernel
theorem dL_law_1138 : decode cL_law 1138 = .ok (.invokevirtual 147, 3) := by decide +kernel
theorem dL_law_1141 : decode cL_law 1141 = .ok (.if_icmp .eq 381, 3) := by decide +kernel
theorem dL_law_1144 : decode cL_law 1144 = .ok (.iconst 0, 1) := by decide +kernel
theorem dL_law_1145 : decode cL_law 1145 = .ok (.ireturn, 1) := by decide +kernel
theorem dL_law_1146 : decode cL_law 1146 = .ok (.aload_n 1, 1) := by decide +kernel
theorem dL_law_1147 : decode cL_law 1147 = .ok (.aload_n 0, 1) := by decide +kernel
theorem dL_law_1148 : decode cL_law 1148 = .ok (.iload_n 3, 1) := by decide +kernel
theorem dL_law_1149 : decode cL_law 1149 = .ok (.iconst 1, 1) := by decide +kernel
theorem dL_law_1150 : decode cL_law 1150 = .ok (.iadd, 1) := by decide +kernel
theorem dL_law_1151 : decode cL_law 1151 = .ok (.iaload, 1) := by decide +kernel
theorem dL_law_1152 : decode cL_law 1152 = .ok (.aload_n 0, 1) := by decide +kernel
theorem dL_law_1153 : decode cL_law 1153 = .ok (.iload_n 3, 1) := by decide +kernel
theorem dL_law_1154 : decode cL_law 1154 = .ok (.iconst 2, 1) := by decide +kernel
theorem dL_law_1155 : decode cL_law 1155 = .ok (.iadd, 1) := by decide +kernel
theorem dL_law_1156 : decode cL_law 1156 = .ok (.iaload, 1) := by decide +kernel
theorem dL_law_1157 : decode cL_law 1157 = .ok (.aload_n 0, 1) := by decide +kernel
theorem dL_law_1158 : decode cL_law 1158 = .ok (.iload_n 3, 1) := by decide +kernel
theorem dL_law_1159 : decode cL_law 1159 = .ok (.iconst 3, 1) := by decide +kernel
theorem dL_law_1160 : decode cL_law 1160 = .ok (.iadd, 1) := by decide +kernel
theorem dL_law_1161 : decode cL_law 1161 = .ok (.iaload, 1) := by decide +kernel
theorem dL_law_1162 : decode cL_law 1162 = .ok (.invokevirtual 148, 3) := by decide +kernel
theorem dL_law_1165 : decode cL_law 1165 = .ok (.aload_n 2, 1) := by decide +kernel
theorem dL_law_1166 : decode cL_law 1166 = .ok (.aload_n 0, 1) := by decide +kernel
theorem dL_law_1167 : decode cL_law 1167 = .ok (.iload_n 3, 1) := by decide +kernel
theorem dL_law_1168 : decode cL_law 1168 = .ok (.iconst 1, 1) := by decide +kernel
theorem dL_law_1169 : decode cL_law 1169 = .ok (.iadd, 1) := by decide +kernel
theorem dL_law_1170 : decode cL_law 1170 = .ok (.iaload, 1) := by decide +kernel
theorem dL_law_1171 : decode cL_law 1171 = .ok (.aload_n 0, 1) := by decide +kernel
theorem dL_law_1172 : decode cL_law 1172 = .ok (.iload_n 3, 1) := by decide +kernel
theorem dL_law_1173 : decode cL_law 1173 = .ok (.iconst 2, 1) := by decide +kernel
theorem dL_law_1174 : decode cL_law 1174 = .ok (.iadd, 1) := by decide +kernel
theorem dL_law_1175 : decode cL_law 1175 = .ok (.iaload, 1) := by decide +kernel
theorem dL_law_1176 : decode cL_law 1176 = .ok (.aload_n 0, 1) := by decide +kernel
theorem dL_law_1177 : decode cL_law 1177 = .ok (.iload_n 3, 1) := by decide +kernel
theorem dL_law_1178 : decode cL_law 1178 = .ok (.iconst 3, 1) := by decide +kernel
theorem dL_law_1179 : decode cL_law 1179 = .ok (.iadd, 1) := by decide +kernel
theorem dL_law_1180 : decode cL_law 1180 = .ok (.iaload, 1) := by decide +kernel
theorem dL_law_1181 : decode cL_law 1181 = .ok (.invokevirtual 151, 3) := by decide +kernel
theorem dL_law_1184 : decode cL_law 1184 = .ok (.if_icmp .eq 338, 3) := by decide +kernel
theorem dL_law_1187 : decode cL_law 1187 = .ok (.iconst 0, 1) := by decide +kernel
theorem dL_law_1188 : decode cL_law 1188 = .ok (.ireturn, 1) := by decide +kernel
theorem dL_law_1189 : decode cL_law 1189 = .ok (.aload_n 1, 1) := by decide +kernel
theorem dL_law_1190 : decode cL_law 1190 = .ok (.invokevirtual 152, 3) := by decide +kernel
theorem dL_law_1193 : decode cL_law 1193 = .ok (.aload_n 2, 1) := by decide +kernel
theorem dL_law_1194 : decode cL_law 1194 = .ok (.invokevirtual 155, 3) := by decide +kernel
theorem dL_law_1197 : decode cL_law 1197 = .ok (.if_icmp .eq 325, 3) := by decide +kernel
theorem dL_law_1200 : decode cL_law 1200 = .ok (.iconst 0, 1) := by decide +kernel
theorem dL_law_1201 : decode cL_law 1201 = .ok (.ireturn, 1) := by decide +kernel
theorem dL_law_1202 : decode cL_law 1202 = .ok (.aload_n 1, 1) := by decide +kernel
theorem dL_law_1203 : decode cL_law 1203 = .ok (.aload_n 0, 1) := by decide +kernel
theorem dL_law_1204 : decode cL_law 1204 = .ok (.iload_n 3, 1) := by decide +kernel
theorem dL_law_1205 : decode cL_law 1205 = .ok (.iconst 1, 1) := by decide +kernel
theorem dL_law_1206 : decode cL_law 1206 = .ok (.iadd, 1) := by decide +kernel
theorem dL_law_1207 : decode cL_law 1207 = .ok (.iaload, 1) := by decide +kernel
theorem dL_law_1208 : decode cL_law 1208 = .ok (.aload_n 0, 1) := by decide +kernel
theorem dL_law_1209 : decode cL_law 1209 = .ok (.iload_n 3, 1) := by decide +kernel
theorem dL_law_1210 : decode cL_law 1210 = .ok (.iconst 2, 1) := by decide +kernel
theorem dL_law_1211 : decode cL_law 1211 = .ok (.iadd, 1) := by decide +kernel
theorem dL_law_1212 : decode cL_law 1212 = .ok (.iaload, 1) := by decide +kernel
theorem dL_law_1213 : decode cL_law 1213 = .ok (.aload_n 0, 1) := by decide +kernel
theorem dL_law_1214 : decode cL_law 1214 = .ok (.iload_n 3, 1) := by decide +kernel
theorem dL_law_1215 : decode cL_law 1215 = .ok (.iconst 3, 1) := by decide +kernel
theorem dL_law_1216 : decode cL_law 1216 = .ok (.iadd, 1) := by decide +kernel
theorem dL_law_1217 : decode cL_law 1217 = .ok (.iaload, 1) := by decide +kernel
theorem dL_law_1218 : decode cL_law 1218 = .ok (.invokevirtual 156, 3) := by decide +kernel
theorem dL_law_1221 : decode cL_law 1221 = .ok (.aload_n 2, 1) := by decide +kernel
theorem dL_law_1222 : decode cL_law 1222 = .ok (.aload_n 0, 1) := by decide +kernel
theorem dL_law_1223 : decode cL_law 1223 = .ok (.iload_n 3, 1) := by decide +kernel
theorem dL_law_1224 : decode cL_law 1224 = .ok (.iconst 1, 1) := by decide +kernel
theorem dL_law_1225 : decode cL_law 1225 = .ok (.iadd, 1) := by decide +kernel
theorem dL_law_1226 : decode cL_law 1226 = .ok (.iaload, 1) := by decide +kernel
theorem dL_law_1227 : decode cL_law 1227 = .ok (.aload_n 0, 1) := by decide +kernel
theorem dL_law_1228 : decode cL_law 1228 = .ok (.iload_n 3, 1) := by decide +kernel
theorem dL_law_1229 : decode cL_law 1229 = .ok (.iconst 2, 1) := by decide +kernel
theorem dL_law_1230 : decode cL_law 1230 = .ok (.iadd, 1) := by decide +kernel
theorem dL_law_1231 : decode cL_law 1231 = .ok (.iaload, 1) := by decide +kernel
theorem dL_law_1232 : decode cL_law 1232 = .ok (.aload_n 0, 1) := by decide +kernel
theorem dL_law_1233 : decode cL_law 1233 = .ok (.iload_n 3, 1) := by decide +kernel
theorem dL_law_1234 : decode cL_law 1234 = .ok (.iconst 3, 1) := by decide +kernel
theorem dL_law_1235 : decode cL_law 1235 = .ok (.iadd, 1) := by decide +kernel
theorem dL_law_1236 : decode cL_law 1236 = .ok (.iaload, 1) := by decide +kernel
theorem dL_law_1237 : decode cL_law 1237 = .ok (.invokevirtual 159, 3) := by decide +kernel
theorem dL_law_1240 : decode cL_law 1240 = .ok (.if_icmp .eq 282, 3) := by decide +kernel
theorem dL_law_1243 : decode cL_law 1243 = .ok (.iconst 0, 1) := by decide +kernel
theorem dL_law_1244 : decode cL_law 1244 = .ok (.ireturn, 1) := by decide +kernel
theorem dL_law_1245 : decode cL_law 1245 = .ok (.aload_n 1, 1) := by decide +kernel
theorem dL_law_1246 : decode cL_law 1246 = .ok (.aload_n 0, 1) := by decide +kernel
theorem dL_law_1247 : decode cL_law 1247 = .ok (.iload_n 3, 1) := by decide +kernel
theorem dL_law_1248 : decode cL_law 1248 = .ok (.iconst 1, 1) := by decide +kernel
theorem dL_law_1249 : decode cL_law 1249 = .ok (.iadd, 1) := by decide +kernel
theorem dL_law_1250 : decode cL_law 1250 = .ok (.iaload, 1) := by decide +kernel
theorem dL_law_1251 : decode cL_law 1251 = .ok (.aload_n 0, 1) := by decide +kernel
theorem dL_law_1252 : decode cL_law 1252 = .ok (.iload_n 3, 1) := by decide +kernel
theorem dL_law_1253 : decode cL_law 1253 = .ok (.iconst 2, 1) := by decide +kernel
theorem dL_law_1254 : decode cL_law 1254 = .ok (.iadd, 1) := by decide +kernel
theorem dL_law_1255 : decode cL_law 1255 = .ok (.iaload, 1) := by decide +kernel
theorem dL_law_1256 : decode cL_law 1256 = .ok (.aload_n 0, 1) := by decide +kernel
theorem dL_law_1257 : decode cL_law 1257 = .ok (.iload_n 3, 1) := by decide +kernel
theorem dL_law_1258 : decode cL_law 1258 = .ok (.iconst 3, 1) := by decide +kernel
theorem dL_law_1259 : decode cL_law 1259 = .ok (.iadd, 1) := by decide +kernel
theorem dL_law_1260 : decode cL_law 1260 = .ok (.iaload, 1) := by decide +kernel
theorem dL_law_1261 : decode cL_law 1261 = .ok (.invokevirtual 160, 3) := by decide +kernel
theorem dL_law_1264 : decode cL_law 1264 = .ok (.aload_n 2, 1) := by decide +kernel
theorem dL_law_1265 : decode cL_law 1265 = .ok (.aload_n 0, 1) := by decide +kernel
theorem dL_law_1266 : decode cL_law 1266 = .ok (.iload_n 3, 1) := by decide +kernel
theorem dL_law_1267 : decode cL_law 1267 = .ok (.iconst 1, 1) := by decide +kernel
theorem dL_law_1268 : decode cL_law 1268 = .ok (.iadd, 1) := by decide +kernel
theorem dL_law_1269 : decode cL_law 1269 = .ok (.iaload, 1) := by decide +kernel
theorem dL_law_1270 : decode cL_law 1270 = .ok (.aload_n 0, 1) := by decide +kernel
theorem dL_law_1271 : decode cL_law 1271 = .ok (.iload_n 3, 1) := by decide +kernel
theorem dL_law_1272 : decode cL_law 1272 = .ok (.iconst 2, 1) := by decide +kernel
theorem dL_law_1273 : decode cL_law 1273 = .ok (.iadd, 1) := by decide +kernel
theorem dL_law_1274 : decode cL_law 1274 = .ok (.iaload, 1) := by decide +kernel
theorem dL_law_1275 : decode cL_law 1275 = .ok (.aload_n 0, 1) := by decide +kernel
theorem dL_law_1276 : decode cL_law 1276 = .ok (.iload_n 3, 1) := by decide +kernel
theorem dL_law_1277 : decode cL_law 1277 = .ok (.iconst 3, 1) := by decide +kernel
theorem dL_law_1278 : decode cL_law 1278 = .ok (.iadd, 1) := by decide +kernel
theorem dL_law_1279 : decode cL_law 1279 = .ok (.iaload, 1) := by decide +kernel
theorem dL_law_1280 : decode cL_law 1280 = .ok (.invokevirtual 163, 3) := by decide +kernel
theorem dL_law_1283 : decode cL_law 1283 = .ok (.if_icmp .eq 239, 3) := by decide +kernel
theorem dL_law_1286 : decode cL_law 1286 = .ok (.iconst 0, 1) := by decide +kernel
theorem dL_law_1287 : decode cL_law 1287 = .ok (.ireturn, 1) := by decide +kernel
theorem dL_law_1288 : decode cL_law 1288 = .ok (.aload_n 1, 1) := by decide +kernel
theorem dL_law_1289 : decode cL_law 1289 = .ok (.aload_n 0, 1) := by decide +kernel
theorem dL_law_1290 : decode cL_law 1290 = .ok (.iload_n 3, 1) := by decide +kernel
theorem dL_law_1291 : decode cL_law 1291 = .ok (.iconst 1, 1) := by decide +kernel
theorem dL_law_1292 : decode cL_law 1292 = .ok (.iadd, 1) := by decide +kernel
theorem dL_law_1293 : decode cL_law 1293 = .ok (.iaload, 1) := by decide +kernel
theorem dL_law_1294 : decode cL_law 1294 = .ok (.aload_n 0, 1) := by decide +kernel
theorem dL_law_1295 : decode cL_law 1295 = .ok (.iload_n 3, 1) := by decide +kernel
theorem dL_law_1296 : decode cL_law 1296 = .ok (.iconst 2, 1) := by decide +kernel
theorem dL_law_1297 : decode cL_law 1297 = .ok (.iadd, 1) := by decide +kernel
theorem dL_law_1298 : decode cL_law 1298 = .ok (.iaload, 1) := by decide +kernel
theorem dL_law_1299 : decode cL_law 1299 = .ok (.aload_n 0, 1) := by decide +kernel
theorem dL_law_1300 : decode cL_law 1300 = .ok (.iload_n 3, 1) := by decide +kernel
theorem dL_law_1301 : decode cL_law 1301 = .ok (.iconst 3, 1) := by decide +kernel
theorem dL_law_1302 : decode cL_law 1302 = .ok (.iadd, 1) := by decide +kernel
theorem dL_law_1303 : decode cL_law 1303 = .ok (.iaload, 1) := by decide +kernel
theorem dL_law_1304 : decode cL_law 1304 = .ok (.invokevirtual 164, 3) := by decide +kernel
theorem dL_law_1307 : decode cL_law 1307 = .ok (.aload_n 2, 1) := by decide +kernel
theorem dL_law_1308 : decode cL_law 1308 = .ok (.aload_n 0, 1) := by decide +kernel
theorem dL_law_1309 : decode cL_law 1309 = .ok (.iload_n 3, 1) := by decide +kernel
theorem dL_law_1310 : decode cL_law 1310 = .ok (.iconst 1, 1) := by decide +kernel
theorem dL_law_1311 : decode cL_law 1311 = .ok (.iadd, 1) := by decide +kernel
theorem dL_law_1312 : decode cL_law 1312 = .ok (.iaload, 1) := by decide +kernel
theorem dL_law_1313 : decode cL_law 1313 = .ok (.aload_n 0, 1) := by decide +kernel
theorem dL_law_1314 : decode cL_law 1314 = .ok (.iload_n 3, 1) := by decide +kernel
theorem dL_law_1315 : decode cL_law 1315 = .ok (.iconst 2, 1) := by decide +kernel
theorem dL_law_1316 : decode cL_law 1316 = .ok (.iadd, 1) := by decide +kernel
theorem dL_law_1317 : decode cL_law 1317 = .ok (.iaload, 1) := by decide +kernel
theorem dL_law_1318 : decode cL_law 1318 = .ok (.aload_n 0, 1) := by decide +kernel
theorem dL_law_1319 : decode cL_law 1319 = .ok (.iload_n 3, 1) := by decide +kernel
theorem dL_law_1320 : decode cL_law 1320 = .ok (.iconst 3, 1) := by decide +kernel
theorem dL_law_1321 : decode cL_law 1321 = .ok (.iadd, 1) := by decide +kernel
theorem dL_law_1322 : decode cL_law 1322 = .ok (.iaload, 1) := by decide +kernel
theorem dL_law_1323 : decode cL_law 1323 = .ok (.invokevirtual 167, 3) := by decide +kernel
theorem dL_law_1326 : decode cL_law 1326 = .ok (.if_icmp .eq 196, 3) := by decide +kernel
theorem dL_law_1329 : decode cL_law 1329 = .ok (.iconst 0, 1) := by decide +kernel
theorem dL_law_1330 : decode cL_law 1330 = .ok (.ireturn, 1) := by decide +kernel
theorem dL_law_1331 : decode cL_law 1331 = .ok (.aload_n 1, 1) := by decide +kernel
theorem dL_law_1332 : decode cL_law 1332 = .ok (.aload_n 0, 1) := by decide +kernel
theorem dL_law_1333 : decode cL_law 1333 = .ok (.iload_n 3, 1) := by decide +kernel
theorem dL_law_1334 : decode cL_law 1334 = .ok (.iconst 1, 1) := by decide +kernel
theorem dL_law_1335 : decode cL_law 1335 = .ok (.iadd, 1) := by decide +kernel
theorem dL_law_1336 : decode cL_law 1336 = .ok (.iaload, 1) := by decide +kernel
theorem dL_law_1337 : decode cL_law 1337 = .ok (.aload_n 0, 1) := by decide +kernel
theorem dL_law_1338 : decode cL_law 1338 = .ok (.iload_n 3, 1) := by decide +kernel
theorem dL_law_1339 : decode cL_law 1339 = .ok (.iconst 2, 1) := by decide +kernel
theorem dL_law_1340 : decode cL_law 1340 = .ok (.iadd, 1) := by decide +kernel
theorem dL_law_1341 : decode cL_law 1341 = .ok (.iaload, 1) := by decide +kernel
theorem dL_law_1342 : decode cL_law 1342 = .ok (.aload_n 0, 1) := by decide +kernel
theorem dL_law_1343 : decode cL_law 1343 = .ok (.iload_n 3, 1) := by decide +kernel
theorem dL_law_1344 : decode cL_law 1344 = .ok (.iconst 3, 1) := by decide +kernel
theorem dL_law_1345 : decode cL_law 1345 = .ok (.iadd, 1) := by decide +kernel
theorem dL_law_1346 : decode cL_law 1346 = .ok (.iaload, 1) := by decide +kernel
theorem dL_law_1347 : decode cL_law 1347 = .ok (.invokevirtual 168, 3) := by decide +kernel
theorem dL_law_1350 : decode cL_law 1350 = .ok (.aload_n 2, 1) := by decide +kernel
theorem dL_law_1351 : decode cL_law 1351 = .ok (.aload_n 0, 1) := by decide +kernel
theorem dL_law_1352 : decode cL_law 1352 = .ok (.iload_n 3, 1) := by decide +kernel
theorem dL_law_1353 : decode cL_law 1353 = .ok (.iconst 1, 1) := by decide +kernel
theorem dL_law_1354 : decode cL_law 1354 = .ok (.iadd, 1) := by decide +kernel
theorem dL_law_1355 : decode cL_law 1355 = .ok (.iaload, 1) := by decide +kernel
theorem dL_law_1356 : decode cL_law 1356 = .ok (.aload_n 0, 1) := by decide +kernel
theorem dL_law_1357 : decode cL_law 1357 = .ok (.iload_n 3, 1) := by decide +kernel
theorem dL_law_1358 : decode cL_law 1358 = .ok (.iconst 2, 1) := by decide +kernel
theorem dL_law_1359 : decode cL_law 1359 = .ok (.iadd, 1) := by decide +kernel
theorem dL_law_1360 : decode cL_law 1360 = .ok (.iaload, 1) := by decide +kernel
theorem dL_law_1361 : decode cL_law 1361 = .ok (.aload_n 0, 1) := by decide +kernel
theorem dL_law_1362 : decode cL_law 1362 = .ok (.iload_n 3, 1) := by decide +kernel
theorem dL_law_1363 : decode cL_law 1363 = .ok (.iconst 3, 1) := by decide +kernel
theorem dL_law_1364 : decode cL_law 1364 = .ok (.iadd, 1) := by decide +kernel
theorem dL_law_1365 : decode cL_law 1365 = .ok (.iaload, 1) := by decide +kernel
theorem dL_law_1366 : decode cL_law 1366 = .ok (.invokevirtual 171, 3) := by decide +kernel
theorem dL_law_1369 : decode cL_law 1369 = .ok (.if_icmp .eq 153, 3) := by decide +kernel
theorem dL_law_1372 : decode cL_law 1372 = .ok (.iconst 0, 1) := by decide +kernel
theorem dL_law_1373 : decode cL_law 1373 = .ok (.ireturn, 1) := by decide +kernel
theorem dL_law_1374 : decode cL_law 1374 = .ok (.aload_n 1, 1) := by decide +kernel
theorem dL_law_1375 : decode cL_law 1375 = .ok (.aload_n 0, 1) := by decide +kernel
theorem dL_law_1376 : decode cL_law 1376 = .ok (.iload_n 3, 1) := by decide +kernel
theorem dL_law_1377 : decode cL_law 1377 = .ok (.iconst 1, 1) := by decide +kernel
theorem dL_law_1378 : decode cL_law 1378 = .ok (.iadd, 1) := by decide +kernel
theorem dL_law_1379 : decode cL_law 1379 = .ok (.iaload, 1) := by decide +kernel
theorem dL_law_1380 : decode cL_law 1380 = .ok (.aload_n 0, 1) := by decide +kernel
theorem dL_law_1381 : decode cL_law 1381 = .ok (.iload_n 3, 1) := by decide +kernel
theorem dL_law_1382 : decode cL_law 1382 = .ok (.iconst 2, 1) := by decide +kernel
theorem dL_law_1383 : decode cL_law 1383 = .ok (.iadd, 1) := by decide +kernel
theorem dL_law_1384 : decode cL_law 1384 = .ok (.iaload, 1) := by decide +kernel
theorem dL_law_1385 : decode cL_law 1385 = .ok (.invokevirtual 172, 3) := by decide +kernel
theorem dL_law_1388 : decode cL_law 1388 = .ok (.aload_n 2, 1) := by decide +kernel
theorem dL_law_1389 : decode cL_law 1389 = .ok (.aload_n 0, 1) := by decide +kernel
theorem dL_law_1390 : decode cL_law 1390 = .ok (.iload_n 3, 1) := by decide +kernel
theorem dL_law_1391 : decode cL_law 1391 = .ok (.iconst 1, 1) := by decide +kernel
theorem dL_law_1392 : decode cL_law 1392 = .ok (.iadd, 1) := by decide +kernel
theorem dL_law_1393 : decode cL_law 1393 = .ok (.iaload, 1) := by decide +kernel
theorem dL_law_1394 : decode cL_law 1394 = .ok (.aload_n 0, 1) := by decide +kernel
theorem dL_law_1395 : decode cL_law 1395 = .ok (.iload_n 3, 1) := by decide +kernel
theorem dL_law_1396 : decode cL_law 1396 = .ok (.iconst 2, 1) := by decide +kernel
theorem dL_law_1397 : decode cL_law 1397 = .ok (.iadd, 1) := by decide +kernel
theorem dL_law_1398 : decode cL_law 1398 = .ok (.iaload, 1) := by decide +kernel
theorem dL_law_1399 : decode cL_law 1399 = .ok (.invokevirtual 175, 3) := by decide +kernel
theorem dL_law_1402 : decode cL_law 1402 = .ok (.if_icmp .eq 120, 3) := by decide +kernel
theorem dL_law_1405 : decode cL_law 1405 = .ok (.iconst 0, 1) := by decide +kernel
theorem dL_law_1406 : decode cL_law 1406 = .ok (.ireturn, 1) := by decide +kernel
theorem dL_law_1407 : decode cL_law 1407 = .ok (.aload_n 1, 1) := by decide +kernel
theorem dL_law_1408 : decode cL_law 1408 = .ok (.aload_n 0, 1) := by decide +kernel
theorem dL_law_1409 : decode cL_law 1409 = .ok (.iload_n 3, 1) := by decide +kernel
theorem dL_law_1410 : decode cL_law 1410 = .ok (.iconst 1, 1) := by decide +kernel
theorem dL_law_1411 : decode cL_law 1411 = .ok (.iadd, 1) := by decide +kernel
theorem dL_law_1412 : decode cL_law 1412 = .ok (.iaload, 1) := by decide +kernel
theorem dL_law_1413 : decode cL_law 1413 = .ok (.aload_n 0, 1) := by decide +kernel
theorem dL_law_1414 : decode cL_law 1414 = .ok (.iload_n 3, 1) := by decide +kernel
theorem dL_law_1415 : decode cL_law 1415 = .ok (.iconst 2, 1) := by decide +kernel
theorem dL_law_1416 : decode cL_law 1416 = .ok (.iadd, 1) := by decide +kernel
theorem dL_law_1417 : decode cL_law 1417 = .ok (.iaload, 1) := by decide +kernel
theorem dL_law_1418 : decode cL_law 1418 = .ok (.aload_n 0, 1) := by decide +kernel
theorem dL_law_1419 : decode cL_law 1419 = .ok (.iload_n 3, 1) := by decide +kernel
theorem dL_law_1420 : decode cL_law 1420 = .ok (.iconst 3, 1) := by decide +kernel
theorem dL_law_1421 : decode cL_law 1421 = .ok (.iadd, 1) := by decide +kernel
theorem dL_law_1422 : decode cL_law 1422 = .ok (.iaload, 1) := by decide +kernel
theorem dL_law_1423 : decode cL_law 1423 = .ok (.invokevirtual 176, 3) := by decide +kernel
theorem dL_law_1426 : decode cL_law 1426 = .ok (.aload_n 2, 1) := by decide +kernel
theorem dL_law_1427 : decode cL_law 1427 = .ok (.aload_n 0, 1) := by decide +kernel
theorem dL_law_1428 : decode cL_law 1428 = .ok (.iload_n 3, 1) := by decide +kernel
theorem dL_law_1429 : decode cL_law 1429 = .ok (.iconst 1, 1) := by decide +kernel
theorem dL_law_1430 : decode cL_law 1430 = .ok (.iadd, 1) := by decide +kernel
theorem dL_law_1431 : decode cL_law 1431 = .ok (.iaload, 1) := by decide +kernel
theorem dL_law_1432 : decode cL_law 1432 = .ok (.aload_n 0, 1) := by decide +kernel
theorem dL_law_1433 : decode cL_law 1433 = .ok (.iload_n 3, 1) := by decide +kernel
theorem dL_law_1434 : decode cL_law 1434 = .ok (.iconst 2, 1) := by decide +kernel
theorem dL_law_1435 : decode cL_law 1435 = .ok (.iadd, 1) := by decide +kernel
theorem dL_law_1436 : decode cL_law 1436 = .ok (.iaload, 1) := by decide +kernel
theorem dL_law_1437 : decode cL_law 1437 = .ok (.aload_n 0, 1) := by decide +kernel
theorem dL_law_1438 : decode cL_law 1438 = .ok (.iload_n 3, 1) := by decide +kernel
theorem dL_law_1439 : decode cL_law 1439 = .ok (.iconst 3, 1) := by decide +kernel
theorem dL_law_1440 : decode cL_law 1440 = .ok (.iadd, 1) := by decide +kernel
theorem dL_law_1441 : decode cL_law 1441 = .ok (.iaload, 1) := by decide +kernel
theorem dL_law_1442 : decode cL_law 1442 = .ok (.invokevirtual 179, 3) := by decide +kernel
theorem dL_law_1445 : decode cL_law 1445 = .ok (.if_icmp .eq 77, 3) := by decide +kernel
theorem dL_law_1448 : decode cL_law 1448 = .ok (.iconst 0, 1) := by decide +kernel
theorem dL_law_1449 : decode cL_law 1449 = .ok (.ireturn, 1) := by decide +kernel
theorem dL_law_1450 : decode cL_law 1450 = .ok (.aload_n 1, 1) := by decide +kernel
theorem dL_law_1451 : decode cL_law 1451 = .ok (.aload_n 0, 1) := by decide +kernel
theorem dL_law_1452 : decode cL_law 1452 = .ok (.iload_n 3, 1) := by decide +kernel
theorem dL_law_1453 : decode cL_law 1453 = .ok (.iconst 1, 1) := by decide +kernel
theorem dL_law_1454 : decode cL_law 1454 = .ok (.iadd, 1) := by decide +kernel
theorem dL_law_1455 : decode cL_law 1455 = .ok (.iaload, 1) := by decide +kernel
theorem dL_law_1456 : decode cL_law 1456 = .ok (.invokevirtual 180, 3) := by decide +kernel
theorem dL_law_1459 : decode cL_law 1459 = .ok (.aload_n 2, 1) := by decide +kernel
theorem dL_law_1460 : decode cL_law 1460 = .ok (.aload_n 0, 1) := by decide +kernel
theorem dL_law_1461 : decode cL_law 1461 = .ok (.iload_n 3, 1) := by decide +kernel
theorem dL_law_1462 : decode cL_law 1462 = .ok (.iconst 1, 1) := by decide +kernel
theorem dL_law_1463 : decode cL_law 1463 = .ok (.iadd, 1) := by decide +kernel
theorem dL_law_1464 : decode cL_law 1464 = .ok (.iaload, 1) := by decide +kernel
theorem dL_law_1465 : decode cL_law 1465 = .ok (.invokevirtual 183, 3) := by decide +kernel
theorem dL_law_1468 : decode cL_law 1468 = .ok (.if_icmp .eq 54, 3) := by decide +kernel
theorem dL_law_1471 : decode cL_law 1471 = .ok (.iconst 0, 1) := by decide +kernel
theorem dL_law_1472 : decode cL_law 1472 = .ok (.ireturn, 1) := by decide +kernel
theorem dL_law_1473 : decode cL_law 1473 = .ok (.aload_n 1, 1) := by decide +kernel
theorem dL_law_1474 : decode cL_law 1474 = .ok (.aload_n 0, 1) := by decide +kernel
theorem dL_law_1475 : decode cL_law 1475 = .ok (.iload_n 3, 1) := by decide +kernel
theorem dL_law_1476 : decode cL_law 1476 = .ok (.iconst 1, 1) := by decide +kernel
theorem dL_law_1477 : decode cL_law 1477 = .ok (.iadd, 1) := by decide +kernel
theorem dL_law_1478 : decode cL_law 1478 = .ok (.iaload, 1) := by decide +kernel
theorem dL_law_1479 : decode cL_law 1479 = .ok (.invokevirtual 184, 3) := by decide +kernel
theorem dL_law_1482 : decode cL_law 1482 = .ok (.aload_n 2, 1) := by decide +kernel
theorem dL_law_1483 : decode cL_law 1483 = .ok (.aload_n 0, 1) := by decide +kernel
theorem dL_law_1484 : decode cL_law 1484 = .ok (.iload_n 3, 1) := by decide +kernel
theorem dL_law_1485 : decode cL_law 1485 = .ok (.iconst 1, 1) := by decide +kernel
theorem dL_law_1486 : decode cL_law 1486 = .ok (.iadd, 1) := by decide +kernel
theorem dL_law_1487 : decode cL_law 1487 = .ok (.iaload, 1) := by decide +kernel
theorem dL_law_1488 : decode cL_law 1488 = .ok (.invokevirtual 187, 3) := by decide +kernel
theorem dL_law_1491 : decode cL_law 1491 = .ok (.if_icmp .eq 31, 3) := by decide +kernel
theorem dL_law_1494 : decode cL_law 1494 = .ok (.iconst 0, 1) := by decide +kernel
theorem dL_law_1495 : decode cL_law 1495 = .ok (.ireturn, 1) := by decide +kernel
theorem dL_law_1496 : decode cL_law 1496 = .ok (.aload_n 1, 1) := by decide +kernel
theorem dL_law_1497 : decode cL_law 1497 = .ok (.invokevirtual 188, 3) := by decide +kernel
theorem dL_law_1500 : decode cL_law 1500 = .ok (.aload_n 2, 1) := by decide +kernel
theorem dL_law_1501 : decode cL_law 1501 = .ok (.invokevirtual 191, 3) := by decide +kernel
theorem dL_law_1504 : decode cL_law 1504 = .ok (.if_icmp .eq 18, 3) := by decide +kernel
theorem dL_law_1507 : decode cL_law 1507 = .ok (.iconst 0, 1) := by decide +kernel
theorem dL_law_1508 : decode cL_law 1508 = .ok (.ireturn, 1) := by decide +kernel
theorem dL_law_1509 : decode cL_law 1509 = .ok (.aload_n 1, 1) := by decide +kernel
theorem dL_law_1510 : decode cL_law 1510 = .ok (.invokevirtual 192, 3) := by decide +kernel
theorem dL_law_1513 : decode cL_law 1513 = .ok (.aload_n 2, 1) := by decide +kernel
theorem dL_law_1514 : decode cL_law 1514 = .ok (.invokevirtual 195, 3) := by decide +kernel
theorem dL_law_1517 : decode cL_law 1517 = .ok (.if_icmp .eq 5, 3) := by decide +kernel
theorem dL_law_1520 : decode cL_law 1520 = .ok (.iconst 0, 1) := by decide +kernel
theorem dL_law_1521 : decode cL_law 1521 = .ok (.ireturn, 1) := by decide +kernel
theorem dL_law_1522 : decode cL_law 1522 = .ok (.iinc 3 6, 3) := by decide +kernel
theorem dL_law_1525 : decode cL_law 1525 = .ok (.goto (-1507), 3) := by decide +kernel
theorem dL_law_1528 : decode cL_law 1528 = .ok (.iconst 1, 1) := by decide +kernel
theorem dL_law_1529 : decode cL_law 1529 = .ok (.ireturn, 1) := by decide +kernel
