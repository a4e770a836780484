theorem dX12_init_0 : decode cX12_init 0 = .ok (.aload_n 0, 1) := by decide +kernel
theorem dX12_init_1 : decode cX12_init 1 = .ok (.invokespecial 1, 3) := by decide +kernel
theorem dX12_init_4 : decode cX12_init 4 = .ok (.aload_n 0, 1) := by decide +kernel
theorem dX12_init_5 : decode cX12_init 5 = .ok (.sipush 1800, 3) := by decide +kernel
theorem dX12_init_8 : decode cX12_init 8 = .ok (.newarray .int, 2) := by decide +kernel
theorem dX12_init_10 : decode cX12_init 10 = .ok (.putfield 7, 3) := by decide +kernel
theorem dX12_init_13 : decode cX12_init 13 = .ok (.aload_n 0, 1) := by decide +kernel
theorem dX12_init_14 : decode cX12_init 14 = .ok (.iconst 0, 1) := by decide +kernel
theorem dX12_init_15 : decode cX12_init 15 = .ok (.putfield 13, 3) := by decide +kernel
theorem dX12_init_18 : decode cX12_init 18 = .ok (.aload_n 0, 1) := by decide +kernel
theorem dX12_init_19 : decode cX12_init 19 = .ok (.iconst 0, 1) := by decide +kernel
theorem dX12_init_20 : decode cX12_init 20 = .ok (.putfield 17, 3) := by decide +kernel
theorem dX12_init_23 : decode cX12_init 23 = .ok (.aload_n 0, 1) := by decide +kernel
theorem dX12_init_24 : decode cX12_init 24 = .ok (.iconst 0, 1) := by decide +kernel
theorem dX12_init_25 : decode cX12_init 25 = .ok (.putfield 20, 3) := by decide +kernel
theorem dX12_init_28 : decode cX12_init 28 = .ok (.aload_n 0, 1) := by decide +kernel
theorem dX12_init_29 : decode cX12_init 29 = .ok (.iconst 0, 1) := by decide +kernel
theorem dX12_init_30 : decode cX12_init 30 = .ok (.putfield 23, 3) := by decide +kernel
theorem dX12_init_33 : decode cX12_init 33 = .ok (.aload_n 0, 1) := by decide +kernel
theorem dX12_init_34 : decode cX12_init 34 = .ok (.iconst 0, 1) := by decide +kernel
theorem dX12_init_35 : decode cX12_init 35 = .ok (.putfield 26, 3) := by decide +kernel
theorem dX12_init_38 : decode cX12_init 38 = .ok (.aload_n 0, 1) := by decide +kernel
theorem dX12_init_39 : decode cX12_init 39 = .ok (.iconst 0, 1) := by decide +kernel
theorem dX12_init_40 : decode cX12_init 40 = .ok (.putfield 29, 3) := by decide +kernel
theorem dX12_init_43 : decode cX12_init 43 = .ok (.aload_n 0, 1) := by decide +kernel
theorem dX12_init_44 : decode cX12_init 44 = .ok (.lconst 0, 1) := by decide +kernel
theorem dX12_init_45 : decode cX12_init 45 = .ok (.putfield 32, 3) := by decide +kernel
theorem dX12_init_48 : decode cX12_init 48 = .ok (.aload_n 0, 1) := by decide +kernel
theorem dX12_init_49 : decode cX12_init 49 = .ok (.iconst 0, 1) := by decide +kernel
theorem dX12_init_50 : decode cX12_init 50 = .ok (.putfield 36, 3) := by decide +kernel
theorem dX12_init_53 : decode cX12_init 53 = .ok (.aload_n 0, 1) := by decide +kernel
theorem dX12_init_54 : decode cX12_init 54 = .ok (.iconst (-1), 1) := by decide +kernel
theorem dX12_init_55 : decode cX12_init 55 = .ok (.putfield 39, 3) := by decide +kernel
theorem dX12_init_58 : decode cX12_init 58 = .ok (.aload_n 0, 1) := by decide +kernel
theorem dX12_init_59 : decode cX12_init 59 = .ok (.iconst 0, 1) := by decide +kernel
theorem dX12_init_60 : decode cX12_init 60 = .ok (.putfield 42, 3) := by decide +kernel
theorem dX12_init_63 : decode cX12_init 63 = .ok (.aload_n 0, 1) := by decide +kernel
theorem dX12_init_64 : decode cX12_init 64 = .ok (.iconst (-1), 1) := by decide +kernel
theorem dX12_init_65 : decode cX12_init 65 = .ok (.putfield 45, 3) := by decide +kernel
theorem dX12_init_68 : decode cX12_init 68 = .ok (.aload_n 0, 1) := by decide +kernel
theorem dX12_init_69 : decode cX12_init 69 = .ok (.iconst (-1), 1) := by decide +kernel
theorem dX12_init_70 : decode cX12_init 70 = .ok (.putfield 48, 3) := by decide +kernel
theorem dX12_init_73 : decode cX12_init 73 = .ok (.aload_n 0, 1) := by decide +kernel
theorem dX12_init_74 : decode cX12_init 74 = .ok (.iconst 0, 1) := by decide +kernel
theorem dX12_init_75 : decode cX12_init 75 = .ok (.putfield 51, 3) := by decide +kernel
theorem dX12_init_78 : decode cX12_init 78 = .ok (.aload_n 0, 1) := by decide +kernel
theorem dX12_init_79 : decode cX12_init 79 = .ok (.iconst 2, 1) := by decide +kernel
theorem dX12_init_80 : decode cX12_init 80 = .ok (.newarray .int, 2) := by decide +kernel
theorem dX12_init_82 : decode cX12_init 82 = .ok (.putfield 54, 3) := by decide +kernel
theorem dX12_init_85 : decode cX12_init 85 = .ok (.aload_n 0, 1) := by decide +kernel
theorem dX12_init_86 : decode cX12_init 86 = .ok (.iconst 2, 1) := by decide +kernel
theorem dX12_init_87 : decode cX12_init 87 = .ok (.newarray .int, 2) := by decide +kernel
theorem dX12_init_89 : decode cX12_init 89 = .ok (.putfield 57, 3) := by decide +kernel
theorem dX12_init_92 : decode cX12_init 92 = .ok (.aload_n 0, 1) := by decide +kernel
theorem dX12_init_93 : decode cX12_init 93 = .ok (.iconst 2, 1) := by decide +kernel
theorem dX12_init_94 : decode cX12_init 94 = .ok (.newarray .int, 2) := by decide +kernel
theorem dX12_init_96 : decode cX12_init 96 = .ok (.putfield 60, 3) := by decide +kernel
theorem dX12_init_99 : decode cX12_init 99 = .ok (.aload_n 0, 1) := by decide +kernel
theorem dX12_init_100 : decode cX12_init 100 = .ok (.iconst 2, 1) := by decide +kernel
theorem dX12_init_101 : decode cX12_init 101 = .ok (.newarray .int, 2) := by decide +kernel
theorem dX12_init_103 : decode cX12_init 103 = .ok (.putfield 63, 3) := by decide +kernel
theorem dX12_init_106 : decode cX12_init 106 = .ok (.aload_n 0, 1) := by decide +kernel
theorem dX12_init_107 : decode cX12_init 107 = .ok (.iconst 2, 1) := by decide +kernel
theorem dX12_init_108 : decode cX12_init 108 = .ok (.newarray .int, 2) := by decide +kernel
theorem dX12_init_110 : decode cX12_init 110 = .ok (.putfield 66, 3) := by decide +kernel
theorem dX12_init_113 : decode cX12_init 113 = .ok (.aload_n 0, 1) := by decide +kernel
theorem dX12_init_114 : decode cX12_init 114 = .ok (.bipush 8, 2) := by decide +kernel
theorem dX12_init_116 : decode cX12_init 116 = .ok (.newarray .int, 2) := by decide +kernel
theorem dX12_init_118 : decode cX12_init 118 = .ok (.putfield 69, 3) := by decide +kernel
theorem dX12_init_121 : decode cX12_init 121 = .ok (.aload_n 0, 1) := by decide +kernel
theorem dX12_init_122 : decode cX12_init 122 = .ok (.bipush 8, 2) := by decide +kernel
theorem dX12_init_124 : decode cX12_init 124 = .ok (.newarray .int, 2) := by decide +kernel
theorem dX12_init_126 : decode cX12_init 126 = .ok (.putfield 72, 3) := by decide +kernel
theorem dX12_init_129 : decode cX12_init 129 = .ok (.aload_n 0, 1) := by decide +kernel
theorem dX12_init_130 : decode cX12_init 130 = .ok (.bipush 8, 2) := by decide +kernel
theorem dX12_init_132 : decode cX12_init 132 = .ok (.newarray .int, 2) := by decide +kernel
theorem dX12_init_134 : decode cX12_init 134 = .ok (.putfield 75, 3) := by decide +kernel
theorem dX12_init_137 : decode cX12_init 137 = .ok (.aload_n 0, 1) := by decide +kernel
theorem dX12_init_138 : decode cX12_init 138 = .ok (.iconst 2, 1) := by decide +kernel
theorem dX12_init_139 : decode cX12_init 139 = .ok (.newarray .int, 2) := by decide +kernel
theorem dX12_init_141 : decode cX12_init 141 = .ok (.putfield 78, 3) := by decide +kernel
theorem dX12_init_144 : decode cX12_init 144 = .ok (.aload_n 0, 1) := by decide +kernel
theorem dX12_init_145 : decode cX12_init 145 = .ok (.bipush 8, 2) := by decide +kernel
theorem dX12_init_147 : decode cX12_init 147 = .ok (.newarray .int, 2) := by decide +kernel
theorem dX12_init_149 : decode cX12_init 149 = .ok (.putfield 81, 3) := by decide +kernel
theorem dX12_init_152 : decode cX12_init 152 = .ok (.aload_n 0, 1) := by decide +kernel
theorem dX12_init_153 : decode cX12_init 153 = .ok (.bipush 8, 2) := by decide +kernel
theorem dX12_init_155 : decode cX12_init 155 = .ok (.newarray .int, 2) := by decide +kernel
theorem dX12_init_157 : decode cX12_init 157 = .ok (.putfield 84, 3) := by decide +kernel
theorem dX12_init_160 : decode cX12_init 160 = .ok (.aload_n 0, 1) := by decide +kernel
theorem dX12_init_161 : decode cX12_init 161 = .ok (.sipush 3200, 3) := by decide +kernel
theorem dX12_init_164 : decode cX12_init 164 = .ok (.newarray .int, 2) := by decide +kernel
theorem dX12_init_166 : decode cX12_init 166 = .ok (.putfield 87, 3) := by decide +kernel
theorem dX12_init_169 : decode cX12_init 169 = .ok (.aload_n 0, 1) := by decide +kernel
theorem dX12_init_170 : decode cX12_init 170 = .ok (.sipush 3200, 3) := by decide +kernel
theorem dX12_init_173 : decode cX12_init 173 = .ok (.newarray .int, 2) := by decide +kernel
theorem dX12_init_175 : decode cX12_init 175 = .ok (.putfield 90, 3) := by decide +kernel
theorem dX12_init_178 : decode cX12_init 178 = .ok (.aload_n 0, 1) := by decide +kernel
theorem dX12_init_179 : decode cX12_init 179 = .ok (.bipush 8, 2) := by decide +kernel
theorem dX12_init_181 : decode cX12_init 181 = .ok (.newarray .long, 2) := by decide +kernel
theorem dX12_init_183 : decode cX12_init 183 = .ok (.putfield 93, 3) := by decide +kernel
theorem dX12_init_186 : decode cX12_init 186 = .ok (.aload_n 0, 1) := by decide +kernel
theorem dX12_init_187 : decode cX12_init 187 = .ok (.iconst 0, 1) := by decide +kernel
theorem dX12_init_188 : decode cX12_init 188 = .ok (.putfield 97, 3) := by decide +kernel
theorem dX12_init_191 : decode cX12_init 191 = .ok (.aload_n 0, 1) := by decide +kernel
theorem dX12_init_192 : decode cX12_init 192 = .ok (.iconst 1, 1) := by decide +kernel
theorem dX12_init_193 : decode cX12_init 193 = .ok (.putfield 100, 3) := by decide +kernel
theorem dX12_init_196 : decode cX12_init 196 = .ok (.aload_n 0, 1) := by decide +kernel
theorem dX12_init_197 : decode cX12_init 197 = .ok (.iconst 0, 1) := by decide +kernel
theorem dX12_init_198 : decode cX12_init 198 = .ok (.putfield 103, 3) := by decide +kernel
theorem dX12_init_201 : decode cX12_init 201 = .ok (.aload_n 0, 1) := by decide +kernel
theorem dX12_init_202 : decode cX12_init 202 = .ok (.bipush 20, 2) := by decide +kernel
theorem dX12_init_204 : decode cX12_init 204 = .ok (.newarray .int, 2) := by decide +kernel
theorem dX12_init_206 : decode cX12_init 206 = .ok (.putfield 106, 3) := by decide +kernel
theorem dX12_init_209 : decode cX12_init 209 = .ok (.aload_n 0, 1) := by decide +kernel
theorem dX12_init_210 : decode cX12_init 210 = .ok (.bipush 20, 2) := by decide +kernel
theorem dX12_init_212 : decode cX12_init 212 = .ok (.newarray .int, 2) := by decide +kernel
theorem dX12_init_214 : decode cX12_init 214 = .ok (.putfield 109, 3) := by decide +kernel
theorem dX12_init_217 : decode cX12_init 217 = .ok (.aload_n 0, 1) := by decide +kernel
theorem dX12_init_218 : decode cX12_init 218 = .ok (.bipush 20, 2) := by decide +kernel
theorem dX12_init_220 : decode cX12_init 220 = .ok (.newarray .boolean, 2) := by decide +kernel
theorem dX12_init_222 : decode cX12_init 222 = .ok (.putfield 112, 3) := by decide +kernel
theorem dX12_init_225 : decode cX12_init 225 = .ok (.aload_n 0, 1) := by decide +kernel
theorem dX12_init_226 : decode cX12_init 226 = .ok (.bipush 20, 2) := by decide +kernel
theorem dX12_init_228 : decode cX12_init 228 = .ok (.newarray .int, 2) := by decide +kernel
theorem dX12_init_230 : decode cX12_init 230 = .ok (.putfield 116, 3) := by decide +kernel
theorem dX12_init_233 : decode cX12_init 233 = .ok (.aload_n 0, 1) := by decide +kernel
theorem dX12_init_234 : decode cX12_init 234 = .ok (.bipush 20, 2) := by decide +kernel
theorem dX12_init_236 : decode cX12_init 236 = .ok (.newarray .int, 2) := by decide +kernel
theorem dX12_init_238 : decode cX12_init 238 = .ok (.putfield 119, 3) := by decide +kernel
theorem dX12_init_241 : decode cX12_init 241 = .ok (.aload_n 0, 1) := by decide +kernel
theorem dX12_init_242 : decode cX12_init 242 = .ok (.iconst 0, 1) := by decide +kernel
theorem dX12_init_243 : decode cX12_init 243 = .ok (.putfield 122, 3) := by decide +kernel
theorem dX12_init_246 : decode cX12_init 246 = .ok (.aload_n 0, 1) := by decide +kernel
theorem dX12_init_247 : decode cX12_init 247 = .ok (.iconst 0, 1) := by decide +kernel
theorem dX12_init_248 : decode cX12_init 248 = .ok (.putfield 125, 3) := by decide +kernel
theorem dX12_init_251 : decode cX12_init 251 = .ok (.aload_n 0, 1) := by decide +kernel
theorem dX12_init_252 : decode cX12_init 252 = .ok (.sipush 500, 3) := by decide +kernel
theorem dX12_init_255 : decode cX12_init 255 = .ok (.newarray .int, 2) := by decide +kernel
theorem dX12_init_257 : decode cX12_init 257 = .ok (.putfield 128, 3) := by decide +kernel
theorem dX12_init_260 : decode cX12_init 260 = .ok (.aload_n 0, 1) := by decide +kernel
theorem dX12_init_261 : decode cX12_init 261 = .ok (.iconst 0, 1) := by decide +kernel
theorem dX12_init_262 : decode cX12_init 262 = .ok (.putfield 131, 3) := by decide +kernel
theorem dX12_init_265 : decode cX12_init 265 = .ok (.aload_n 0, 1) := by decide +kernel
theorem dX12_init_266 : decode cX12_init 266 = .ok (.iconst 0, 1) := by decide +kernel
theorem dX12_init_267 : decode cX12_init 267 = .ok (.putfield 134, 3) := by decide +kernel
theorem dX12_init_270 : decode cX12_init 270 = .ok (.aload_n 0, 1) := by decide +kernel
theorem dX12_init_271 : decode cX12_init 271 = .ok (.iconst 0, 1) := by decide +kernel
theorem dX12_init_272 : decode cX12_init 272 = .ok (.putfield 138, 3) := by decide +kernel
theorem dX12_init_275 : decode cX12_init 275 = .ok (.aload_n 0, 1) := by decide +kernel
theorem dX12_init_276 : decode cX12_init 276 = .ok (.bipush 6, 2) := by decide +kernel
theorem dX12_init_278 : decode cX12_init 278 = .ok (.newarray .int, 2) := by decide +kernel
theorem dX12_init_280 : decode cX12_init 280 = .ok (.putfield 141, 3) := by decide +kernel
theorem dX12_init_283 : decode cX12_init 283 = .ok (.aload_n 0, 1) := by decide +kernel
theorem dX12_init_284 : decode cX12_init 284 = .ok (.sipush 880, 3) := by decide +kernel
theorem dX12_init_287 : decode cX12_init 287 = .ok (.newarray .int, 2) := by decide +kernel
theorem dX12_init_289 : decode cX12_init 289 = .ok (.putfield 144, 3) := by decide +kernel
theorem dX12_init_292 : decode cX12_init 292 = .ok (.aload_n 0, 1) := by decide +kernel
theorem dX12_init_293 : decode cX12_init 293 = .ok (.ldc 147, 2) := by decide +kernel
theorem dX12_init_295 : decode cX12_init 295 = .ok (.newarray .int, 2) := by decide +kernel
theorem dX12_init_297 : decode cX12_init 297 = .ok (.putfield 148, 3) := by decide +kernel
theorem dX12_init_300 : decode cX12_init 300 = .ok (.aload_n 0, 1) := by decide +kernel
theorem dX12_init_301 : decode cX12_init 301 = .ok (.sipush 21120, 3) := by decide +kernel
theorem dX12_init_304 : decode cX12_init 304 = .ok (.newarray .int, 2) := by decide +kernel
theorem dX12_init_306 : decode cX12_init 306 = .ok (.putfield 151, 3) := by decide +kernel
theorem dX12_init_309 : decode cX12_init 309 = .ok (.aload_n 0, 1) := by decide +kernel
theorem dX12_init_310 : decode cX12_init 310 = .ok (.ldc 154, 2) := by decide +kernel
theorem dX12_init_312 : decode cX12_init 312 = .ok (.newarray .int, 2) := by decide +kernel
theorem dX12_init_314 : decode cX12_init 314 = .ok (.putfield 155, 3) := by decide +kernel
theorem dX12_init_317 : decode cX12_init 317 = .ok (.aload_n 0, 1) := by decide +kernel
theorem dX12_init_318 : decode cX12_init 318 = .ok (.sipush 4400, 3) := by decide +kernel
theorem dX12_init_321 : decode cX12_init 321 = .ok (.newarray .int, 2) := by decide +kernel
theorem dX12_init_323 : decode cX12_init 323 = .ok (.putfield 158, 3) := by decide +kernel
theorem dX12_init_326 : decode cX12_init 326 = .ok (.aload_n 0, 1) := by decide +kernel
theorem dX12_init_327 : decode cX12_init 327 = .ok (.sipush 2640, 3) := by decide +kernel
theorem dX12_init_330 : decode cX12_init 330 = .ok (.newarray .int, 2) := by decide +kernel
theorem dX12_init_332 : decode cX12_init 332 = .ok (.putfield 161, 3) := by decide +kernel
theorem dX12_init_335 : decode cX12_init 335 = .ok (.aload_n 0, 1) := by decide +kernel
theorem dX12_init_336 : decode cX12_init 336 = .ok (.iconst 0, 1) := by decide +kernel
theorem dX12_init_337 : decode cX12_init 337 = .ok (.putfield 164, 3) := by decide +kernel
theorem dX12_init_340 : decode cX12_init 340 = .ok (.aload_n 0, 1) := by decide +kernel
theorem dX12_init_341 : decode cX12_init 341 = .ok (.iconst 0, 1) := by decide +kernel
theorem dX12_init_342 : decode cX12_init 342 = .ok (.putfield 167, 3) := by decide +kernel
theorem dX12_init_345 : decode cX12_init 345 = .ok (.aload_n 0, 1) := by decide +kernel
theorem dX12_init_346 : decode cX12_init 346 = .ok (.lconst 1, 1) := by decide +kernel
theorem dX12_init_347 : decode cX12_init 347 = .ok (.putfield 170, 3) := by decide +kernel
theorem dX12_init_350 : decode cX12_init 350 = .ok (.aload_n 0, 1) := by decide +kernel
theorem dX12_init_351 : decode cX12_init 351 = .ok (.iconst 0, 1) := by decide +kernel
theorem dX12_init_352 : decode cX12_init 352 = .ok (.putfield 173, 3) := by decide +kernel
theorem dX12_init_355 : decode cX12_init 355 = .ok (.aload_n 0, 1) := by decide +kernel
theorem dX12_init_356 : decode cX12_init 356 = .ok (.iconst 4, 1) := by decide +kernel
theorem dX12_init_357 : decode cX12_init 357 = .ok (.newarray .int, 2) := by decide +kernel
theorem dX12_init_359 : decode cX12_init 359 = .ok (.putfield 176, 3) := by decide +kernel
theorem dX12_init_362 : decode cX12_init 362 = .ok (.aload_n 0, 1) := by decide +kernel
theorem dX12_init_363 : decode cX12_init 363 = .ok (.sipush 500, 3) := by decide +kernel
theorem dX12_init_366 : decode cX12_init 366 = .ok (.newarray .long, 2) := by decide +kernel
theorem dX12_init_368 : decode cX12_init 368 = .ok (.putfield 179, 3) := by decide +kernel
theorem dX12_init_371 : decode cX12_init 371 = .ok (.aload_n 0, 1) := by decide +kernel
theorem dX12_init_372 : decode cX12_init 372 = .ok (.bipush 12, 2) := by decide +kernel
theorem dX12_init_374 : decode cX12_init 374 = .ok (.newarray .int, 2) := by decide +kernel
theorem dX12_init_376 : decode cX12_init 376 = .ok (.putfield 182, 3) := by decide +kernel
theorem dX12_init_379 : decode cX12_init 379 = .ok (.aload_n 0, 1) := by decide +kernel
theorem dX12_init_380 : decode cX12_init 380 = .ok (.sipush 480, 3) := by decide +kernel
theorem dX12_init_383 : decode cX12_init 383 = .ok (.newarray .int, 2) := by decide +kernel
theorem dX12_init_385 : decode cX12_init 385 = .ok (.putfield 185, 3) := by decide +kernel
theorem dX12_init_388 : decode cX12_init 388 = .ok (.aload_n 0, 1) := by decide +kernel
theorem dX12_init_389 : decode cX12_init 389 = .ok (.iconst 0, 1) := by decide +kernel
theorem dX12_init_390 : decode cX12_init 390 = .ok (.putfield 188, 3) := by decide +kernel
theorem dX12_init_393 : decode cX12_init 393 = .ok (.aload_n 0, 1) := by decide +kernel
theorem dX12_init_394 : decode cX12_init 394 = .ok (.sipush 480, 3) := by decide +kernel
theorem dX12_init_397 : decode cX12_init 397 = .ok (.newarray .int, 2) := by decide +kernel
theorem dX12_init_399 : decode cX12_init 399 = .ok (.putfield 191, 3) := by decide +kernel
theorem dX12_init_402 : decode cX12_init 402 = .ok (.aload_n 0, 1) := by decide +kernel
theorem dX12_init_403 : decode cX12_init 403 = .ok (.iconst 0, 1) := by decide +kernel
theorem dX12_init_404 : decode cX12_init 404 = .ok (.putfield 194, 3) := by decide +kernel
theorem dX12_init_407 : decode cX12_init 407 = .ok (.aload_n 0, 1) := by decide +kernel
theorem dX12_init_408 : decode cX12_init 408 = .ok (.iconst 0, 1) := by decide +kernel
theorem dX12_init_409 : decode cX12_init 409 = .ok (.putfield 197, 3) := by decide +kernel
theorem dX12_init_412 : decode cX12_init 412 = .ok (.aload_n 0, 1) := by decide +kernel
theorem dX12_init_413 : decode cX12_init 413 = .ok (.iconst 0, 1) := by decide +kernel
theorem dX12_init_414 : decode cX12_init 414 = .ok (.putfield 200, 3) := by decide +kernel
theorem dX12_init_417 : decode cX12_init 417 = .ok (.aload_n 0, 1) := by decide +kernel
theorem dX12_init_418 : decode cX12_init 418 = .ok (.iconst 0, 1) := by decide +kernel
theorem dX12_init_419 : decode cX12_init 419 = .ok (.putfield 203, 3) := by decide +kernel
theorem dX12_init_422 : decode cX12_init 422 = .ok (.aload_n 0, 1) := by decide +kernel
theorem dX12_init_423 : decode cX12_init 423 = .ok (.iconst 0, 1) := by decide +kernel
theorem dX12_init_424 : decode cX12_init 424 = .ok (.putfield 206, 3) := by decide +kernel
theorem dX12_init_427 : decode cX12_init 427 = .ok (.aload_n 0, 1) := by decide +kernel
theorem dX12_init_428 : decode cX12_init 428 = .ok (.iconst 0, 1) := by decide +kernel
theorem dX12_init_429 : decode cX12_init 429 = .ok (.putfield 209, 3) := by decide +kernel
theorem dX12_init_432 : decode cX12_init 432 = .ok (.aload_n 0, 1) := by decide +kernel
theorem dX12_init_433 : decode cX12_init 433 = .ok (.bipush 16, 2) := by decide +kernel
theorem dX12_init_435 : decode cX12_init 435 = .ok (.newarray .int, 2) := by decide +kernel
theorem dX12_init_437 : decode cX12_init 437 = .ok (.putfield 212, 3) := by decide +kernel
theorem dX12_init_440 : decode cX12_init 440 = .ok (.aload_n 0, 1) := by decide +kernel
theorem dX12_init_441 : decode cX12_init 441 = .ok (.bipush 16, 2) := by decide +kernel
theorem dX12_init_443 : decode cX12_init 443 = .ok (.newarray .int, 2) := by decide +kernel
theorem dX12_init_445 : decode cX12_init 445 = .ok (.putfield 215, 3) := by decide +kernel
theorem dX12_init_448 : decode cX12_init 448 = .ok (.aload_n 0, 1) := by decide +kernel
theorem dX12_init_449 : decode cX12_init 449 = .ok (.bipush 16, 2) := by decide +kernel
theorem dX12_init_451 : decode cX12_init 451 = .ok (.newarray .int, 2) := by decide +kernel
theorem dX12_init_453 : decode cX12_init 453 = .ok (.putfield 218, 3) := by decide +kernel
theorem dX12_init_456 : decode cX12_init 456 = .ok (.aload_n 0, 1) := by decide +kernel
theorem dX12_init_457 : decode cX12_init 457 = .ok (.sipush 1220, 3) := by decide +kernel
theorem dX12_init_460 : decode cX12_init 460 = .ok (.newarray .int, 2) := by decide +kernel
theorem dX12_init_462 : decode cX12_init 462 = .ok (.putfield 221, 3) := by decide +kernel
theorem dX12_init_465 : decode cX12_init 465 = .ok (.iconst 0, 1) := by decide +kernel
theorem dX12_init_466 : decode cX12_init 466 = .ok (.istore_n 1, 1) := by decide +kernel
theorem dX12_init_467 : decode cX12_init 467 = .ok (.iload_n 1, 1) := by decide +kernel
theorem dX12_init_468 : decode cX12_init 468 = .ok (.bipush 8, 2) := by decide +kernel
theorem dX12_init_470 : decode cX12_init 470 = .ok (.if_icmp .ge 16, 3) := by decide +kernel
theorem dX12_init_473 : decode cX12_init 473 = .ok (.aload_n 0, 1) := by decide +kernel
theorem dX12_init_474 : decode cX12_init 474 = .ok (.getfield 81, 3) := by decide +kernel
theorem dX12_init_477 : decode cX12_init 477 = .ok (.iload_n 1, 1) := by decide +kernel
theorem dX12_init_478 : decode cX12_init 478 = .ok (.iconst (-1), 1) := by decide +kernel
theorem dX12_init_479 : decode cX12_init 479 = .ok (.iastore, 1) := by decide +kernel
theorem dX12_init_480 : decode cX12_init 480 = .ok (.iinc 1 1, 3) := by decide +kernel
theorem dX12_init_483 : decode cX12_init 483 = .ok (.goto (-16), 3) := by decide +kernel
theorem dX12_init_486 : decode cX12_init 486 = .ok (.return_, 1) := by decide +kernel
theorem dX12_is_0 : decode cX12_is 0 = .ok (.iload_n 0, 1) := by decide +kernel
theorem dX12_is_1 : decode cX12_is 1 = .ok (.iload_n 1, 1) := by decide +kernel
theorem dX12_is_2 : decode cX12_is 2 = .ok (.if_icmp .lt 12, 3) := by decide +kernel
theorem dX12_is_5 : decode cX12_is 5 = .ok (.iload_n 0, 1) := by decide +kernel
theorem dX12_is_6 : decode cX12_is 6 = .ok (.iload_n 2, 1) := by decide +kernel
theorem dX12_is_7 : decode cX12_is 7 = .ok (.if_icmp .gt 7, 3) := by decide +kernel
theorem dX12_is_10 : decode cX12_is 10 = .ok (.iconst 1, 1) := by decide +kernel
theorem dX12_is_11 : decode cX12_is 11 = .ok (.goto 4, 3) := by decide +kernel
theorem dX12_is_14 : decode cX12_is 14 = .ok (.iconst 0, 1) := by decide +kernel
theorem dX12_is_15 : decode cX12_is 15 = .ok (.ireturn, 1) := by decide +kernel
theorem dX12_put_0 : decode cX12_put 0 = .ok (.bipush 24, 2) := by decide +kernel
theorem dX12_put_2 : decode cX12_put 2 = .ok (.istore_n 2, 1) := by decide +kernel
theorem dX12_put_3 : decode cX12_put 3 = .ok (.iload_n 2, 1) := by decide +kernel
theorem dX12_put_4 : decode cX12_put 4 = .ok (.ifCond .lt 35, 3) := by decide +kernel
theorem dX12_put_7 : decode cX12_put 7 = .ok (.aload_n 0, 1) := by decide +kernel
theorem dX12_put_8 : decode cX12_put 8 = .ok (.getfield 7, 3) := by decide +kernel
theorem dX12_put_11 : decode cX12_put 11 = .ok (.aload_n 0, 1) := by decide +kernel
theorem dX12_put_12 : decode cX12_put 12 = .ok (.getfield 13, 3) := by decide +kernel
theorem dX12_put_15 : decode cX12_put 15 = .ok (.iload_n 1, 1) := by decide +kernel
theorem dX12_put_16 : decode cX12_put 16 = .ok (.iload_n 2, 1) := by decide +kernel
theorem dX12_put_17 : decode cX12_put 17 = .ok (.ishr, 1) := by decide +kernel
theorem dX12_put_18 : decode cX12_put 18 = .ok (.sipush 255, 3) := by decide +kernel
theorem dX12_put_21 : decode cX12_put 21 = .ok (.iand, 1) := by decide +kernel
theorem dX12_put_22 : decode cX12_put 22 = .ok (.iastore, 1) := by decide +kernel
theorem dX12_put_23 : decode cX12_put 23 = .ok (.aload_n 0, 1) := by decide +kernel
theorem dX12_put_24 : decode cX12_put 24 = .ok (.dup, 1) := by decide +kernel
theorem dX12_put_25 : decode cX12_put 25 = .ok (.getfield 13, 3) := by decide +kernel
theorem dX12_put_28 : decode cX12_put 28 = .ok (.iconst 1, 1) := by decide +kernel
theorem dX12_put_29 : decode cX12_put 29 = .ok (.iadd, 1) := by decide +kernel
theorem dX12_put_30 : decode cX12_put 30 = .ok (.putfield 13, 3) := by decide +kernel
theorem dX12_put_33 : decode cX12_put 33 = .ok (.iinc 2 (-8), 3) := by decide +kernel
theorem dX12_put_36 : decode cX12_put 36 = .ok (.goto (-33), 3) := by decide +kernel
theorem dX12_put_39 : decode cX12_put 39 = .ok (.return_, 1) := by decide +kernel
theorem dX12_feed_0 : decode cX12_feed 0 = .ok (.aload_n 0, 1) := by decide +kernel
theorem dX12_feed_1 : decode cX12_feed 1 = .ok (.getfield 13, 3) := by decide +kernel
theorem dX12_feed_4 : decode cX12_feed 4 = .ok (.bipush 20, 2) := by decide +kernel
theorem dX12_feed_6 : decode cX12_feed 6 = .ok (.iadd, 1) := by decide +kernel
theorem dX12_feed_7 : decode cX12_feed 7 = .ok (.sipush 1600, 3) := by decide +kernel
theorem dX12_feed_10 : decode cX12_feed 10 = .ok (.if_icmp .le 9, 3) := by decide +kernel
theorem dX12_feed_13 : decode cX12_feed 13 = .ok (.aload_n 0, 1) := by decide +kernel
theorem dX12_feed_14 : decode cX12_feed 14 = .ok (.iconst 0, 1) := by decide +kernel
theorem dX12_feed_15 : decode cX12_feed 15 = .ok (.invokevirtual 224, 3) := by decide +kernel
theorem dX12_feed_18 : decode cX12_feed 18 = .ok (.ireturn, 1) := by decide +kernel
theorem dX12_feed_19 : decode cX12_feed 19 = .ok (.aload_n 0, 1) := by decide +kernel
theorem dX12_feed_20 : decode cX12_feed 20 = .ok (.iload_n 1, 1) := by decide +kernel
theorem dX12_feed_21 : decode cX12_feed 21 = .ok (.invokevirtual 228, 3) := by decide +kernel
theorem dX12_feed_24 : decode cX12_feed 24 = .ok (.aload_n 0, 1) := by decide +kernel
theorem dX12_feed_25 : decode cX12_feed 25 = .ok (.iload_n 2, 1) := by decide +kernel
theorem dX12_feed_26 : decode cX12_feed 26 = .ok (.invokevirtual 228, 3) := by decide +kernel
theorem dX12_feed_29 : decode cX12_feed 29 = .ok (.aload_n 0, 1) := by decide +kernel
theorem dX12_feed_30 : decode cX12_feed 30 = .ok (.iload_n 3, 1) := by decide +kernel
theorem dX12_feed_31 : decode cX12_feed 31 = .ok (.invokevirtual 228, 3) := by decide +kernel
theorem dX12_feed_34 : decode cX12_feed 34 = .ok (.aload_n 0, 1) := by decide +kernel
theorem dX12_feed_35 : decode cX12_feed 35 = .ok (.iload 4, 2) := by decide +kernel
theorem dX12_feed_37 : decode cX12_feed 37 = .ok (.invokevirtual 228, 3) := by decide +kernel
theorem dX12_feed_40 : decode cX12_feed 40 = .ok (.aload_n 0, 1) := by decide +kernel
theorem dX12_feed_41 : decode cX12_feed 41 = .ok (.iload 5, 2) := by decide +kernel
theorem dX12_feed_43 : decode cX12_feed 43 = .ok (.invokevirtual 228, 3) := by decide +kernel
theorem dX12_feed_46 : decode cX12_feed 46 = .ok (.aload_n 0, 1) := by decide +kernel
theorem dX12_feed_47 : decode cX12_feed 47 = .ok (.getfield 13, 3) := by decide +kernel
theorem dX12_feed_50 : decode cX12_feed 50 = .ok (.ireturn, 1) := by decide +kernel
theorem dX12_end_0 : decode cX12_end 0 = .ok (.iload_n 1, 1) := by decide +kernel
theorem dX12_end_1 : decode cX12_end 1 = .ok (.ifCond .lt 11, 3) := by decide +kernel
theorem dX12_end_4 : decode cX12_end 4 = .ok (.iload_n 1, 1) := by decide +kernel
theorem dX12_end_5 : decode cX12_end 5 = .ok (.aload_n 0, 1) := by decide +kernel
theorem dX12_end_6 : decode cX12_end 6 = .ok (.getfield 13, 3) := by decide +kernel
theorem dX12_end_9 : decode cX12_end 9 = .ok (.if_icmp .le 17, 3) := by decide +kernel
theorem dX12_end_12 : decode cX12_end 12 = .ok (.aload_n 0, 1) := by decide +kernel
theorem dX12_end_13 : decode cX12_end 13 = .ok (.iconst 0, 1) := by decide +kernel
theorem dX12_end_14 : decode cX12_end 14 = .ok (.invokevirtual 224, 3) := by decide +kernel
theorem dX12_end_17 : decode cX12_end 17 = .ok (.ifCond .lt 7, 3) := by decide +kernel
theorem dX12_end_20 : decode cX12_end 20 = .ok (.iconst 1, 1) := by decide +kernel
theorem dX12_end_21 : decode cX12_end 21 = .ok (.goto 4, 3) := by decide +kernel
theorem dX12_end_24 : decode cX12_end 24 = .ok (.iconst 0, 1) := by decide +kernel
theorem dX12_end_25 : decode cX12_end 25 = .ok (.ireturn, 1) := by decide +kernel
theorem dX12_end_26 : decode cX12_end 26 = .ok (.aload_n 0, 1) := by decide +kernel
theorem dX12_end_27 : decode cX12_end 27 = .ok (.iload_n 1, 1) := by decide +kernel
theorem dX12_end_28 : decode cX12_end 28 = .ok (.putfield 13, 3) := by decide +kernel
theorem dX12_end_31 : decode cX12_end 31 = .ok (.iconst 1, 1) := by decide +kernel
theorem dX12_end_32 : decode cX12_end 32 = .ok (.ireturn, 1) := by decide +kernel
theorem dX12_blame_0 : decode cX12_blame 0 = .ok (.aload_n 0, 1) := by decide +kernel
theorem dX12_blame_1 : decode cX12_blame 1 = .ok (.getfield 36, 3) := by decide +kernel
theorem dX12_blame_4 : decode cX12_blame 4 = .ok (.ifCond .le 4, 3) := by decide +kernel
theorem dX12_blame_7 : decode cX12_blame 7 = .ok (.return_, 1) := by decide +kernel
theorem dX12_blame_8 : decode cX12_blame 8 = .ok (.aload_n 0, 1) := by decide +kernel
theorem dX12_blame_9 : decode cX12_blame 9 = .ok (.iload_n 1, 1) := by decide +kernel
theorem dX12_blame_10 : decode cX12_blame 10 = .ok (.putfield 36, 3) := by decide +kernel
theorem dX12_blame_13 : decode cX12_blame 13 = .ok (.aload_n 0, 1) := by decide +kernel
theorem dX12_blame_14 : decode cX12_blame 14 = .ok (.iload_n 2, 1) := by decide +kernel
theorem dX12_blame_15 : decode cX12_blame 15 = .ok (.putfield 39, 3) := by decide +kernel
theorem dX12_blame_18 : decode cX12_blame 18 = .ok (.return_, 1) := by decide +kernel
theorem dX12_isLetter_0 : decode cX12_isLetter 0 = .ok (.iload_n 0, 1) := by decide +kernel
theorem dX12_isLetter_1 : decode cX12_isLetter 1 = .ok (.bipush 97, 2) := by decide +kernel
theorem dX12_isLetter_3 : decode cX12_isLetter 3 = .ok (.if_icmp .lt 13, 3) := by decide +kernel
theorem dX12_isLetter_6 : decode cX12_isLetter 6 = .ok (.iload_n 0, 1) := by decide +kernel
theorem dX12_isLetter_7 : decode cX12_isLetter 7 = .ok (.bipush 122, 2) := by decide +kernel
theorem dX12_isLetter_9 : decode cX12_isLetter 9 = .ok (.if_icmp .gt 7, 3) := by decide +kernel
theorem dX12_isLetter_12 : decode cX12_isLetter 12 = .ok (.iconst 1, 1) := by decide +kernel
theorem dX12_isLetter_13 : decode cX12_isLetter 13 = .ok (.goto 4, 3) := by decide +kernel
theorem dX12_isLetter_16 : decode cX12_isLetter 16 = .ok (.iconst 0, 1) := by decide +kernel
theorem dX12_isLetter_17 : decode cX12_isLetter 17 = .ok (.ireturn, 1) := by decide +kernel
theorem dX12_isDigit_0 : decode cX12_isDigit 0 = .ok (.iload_n 0, 1) := by decide +kernel
theorem dX12_isDigit_1 : decode cX12_isDigit 1 = .ok (.bipush 48, 2) := by decide +kernel
theorem dX12_isDigit_3 : decode cX12_isDigit 3 = .ok (.if_icmp .lt 13, 3) := by decide +kernel
theorem dX12_isDigit_6 : decode cX12_isDigit 6 = .ok (.iload_n 0, 1) := by decide +kernel
theorem dX12_isDigit_7 : decode cX12_isDigit 7 = .ok (.bipush 57, 2) := by decide +kernel
theorem dX12_isDigit_9 : decode cX12_isDigit 9 = .ok (.if_icmp .gt 7, 3) := by decide +kernel
theorem dX12_isDigit_12 : decode cX12_isDigit 12 = .ok (.iconst 1, 1) := by decide +kernel
theorem dX12_isDigit_13 : decode cX12_isDigit 13 = .ok (.goto 4, 3) := by decide +kernel
theorem dX12_isDigit_16 : decode cX12_isDigit 16 = .ok (.iconst 0, 1) := by decide +kernel
theorem dX12_isDigit_17 : decode cX12_isDigit 17 = .ok (.ireturn, 1) := by decide +kernel
theorem dX12_lex_0 : decode cX12_lex 0 = .ok (.aload_n 0, 1) := by decide +kernel
theorem dX12_lex_1 : decode cX12_lex 1 = .ok (.getfield 48, 3) := by decide +kernel
theorem dX12_lex_4 : decode cX12_lex 4 = .ok (.iconst (-1), 1) := by decide +kernel
theorem dX12_lex_5 : decode cX12_lex 5 = .ok (.if_icmp .eq 12, 3) := by decide +kernel
theorem dX12_lex_8 : decode cX12_lex 8 = .ok (.aload_n 0, 1) := by decide +kernel
theorem dX12_lex_9 : decode cX12_lex 9 = .ok (.iconst 1, 1) := by decide +kernel
theorem dX12_lex_10 : decode cX12_lex 10 = .ok (.aload_n 0, 1) := by decide +kernel
theorem dX12_lex_11 : decode cX12_lex 11 = .ok (.getfield 48, 3) := by decide +kernel
theorem dX12_lex_14 : decode cX12_lex 14 = .ok (.invokevirtual 232, 3) := by decide +kernel
theorem dX12_lex_17 : decode cX12_lex 17 = .ok (.return_, 1) := by decide +kernel
theorem dX12_ahead_0 : decode cX12_ahead 0 = .ok (.aload_n 0, 1) := by decide +kernel
theorem dX12_ahead_1 : decode cX12_ahead 1 = .ok (.getfield 26, 3) := by decide +kernel
theorem dX12_ahead_4 : decode cX12_ahead 4 = .ok (.istore_n 1, 1) := by decide +kernel
theorem dX12_ahead_5 : decode cX12_ahead 5 = .ok (.iload_n 1, 1) := by decide +kernel
theorem dX12_ahead_6 : decode cX12_ahead 6 = .ok (.aload_n 0, 1) := by decide +kernel
theorem dX12_ahead_7 : decode cX12_ahead 7 = .ok (.getfield 17, 3) := by decide +kernel
theorem dX12_ahead_10 : decode cX12_ahead 10 = .ok (.if_icmp .ge 31, 3) := by decide +kernel
theorem dX12_ahead_13 : decode cX12_ahead 13 = .ok (.aload_n 0, 1) := by decide +kernel
theorem dX12_ahead_14 : decode cX12_ahead 14 = .ok (.getfield 7, 3) := by decide +kernel
theorem dX12_ahead_17 : decode cX12_ahead 17 = .ok (.iload_n 1, 1) := by decide +kernel
theorem dX12_ahead_18 : decode cX12_ahead 18 = .ok (.iaload, 1) := by decide +kernel
theorem dX12_ahead_19 : decode cX12_ahead 19 = .ok (.bipush 32, 2) := by decide +kernel
theorem dX12_ahead_21 : decode cX12_ahead 21 = .ok (.if_icmp .eq 14, 3) := by decide +kernel
theorem dX12_ahead_24 : decode cX12_ahead 24 = .ok (.aload_n 0, 1) := by decide +kernel
theorem dX12_ahead_25 : decode cX12_ahead 25 = .ok (.getfield 7, 3) := by decide +kernel
theorem dX12_ahead_28 : decode cX12_ahead 28 = .ok (.iload_n 1, 1) := by decide +kernel
theorem dX12_ahead_29 : decode cX12_ahead 29 = .ok (.iaload, 1) := by decide +kernel
theorem dX12_ahead_30 : decode cX12_ahead 30 = .ok (.bipush 10, 2) := by decide +kernel
theorem dX12_ahead_32 : decode cX12_ahead 32 = .ok (.if_icmp .ne 9, 3) := by decide +kernel
theorem dX12_ahead_35 : decode cX12_ahead 35 = .ok (.iinc 1 1, 3) := by decide +kernel
theorem dX12_ahead_38 : decode cX12_ahead 38 = .ok (.goto (-33), 3) := by decide +kernel
theorem dX12_ahead_41 : decode cX12_ahead 41 = .ok (.aload_n 0, 1) := by decide +kernel
theorem dX12_ahead_42 : decode cX12_ahead 42 = .ok (.iload_n 1, 1) := by decide +kernel
theorem dX12_ahead_43 : decode cX12_ahead 43 = .ok (.putfield 23, 3) := by decide +kernel
theorem dX12_ahead_46 : decode cX12_ahead 46 = .ok (.aload_n 0, 1) := by decide +kernel
theorem dX12_ahead_47 : decode cX12_ahead 47 = .ok (.iload_n 1, 1) := by decide +kernel
theorem dX12_ahead_48 : decode cX12_ahead 48 = .ok (.putfield 26, 3) := by decide +kernel
theorem dX12_ahead_51 : decode cX12_ahead 51 = .ok (.aload_n 0, 1) := by decide +kernel
theorem dX12_ahead_52 : decode cX12_ahead 52 = .ok (.iconst 0, 1) := by decide +kernel
theorem dX12_ahead_53 : decode cX12_ahead 53 = .ok (.putfield 20, 3) := by decide +kernel
theorem dX12_ahead_56 : decode cX12_ahead 56 = .ok (.aload_n 0, 1) := by decide +kernel
theorem dX12_ahead_57 : decode cX12_ahead 57 = .ok (.iconst (-1), 1) := by decide +kernel
theorem dX12_ahead_58 : decode cX12_ahead 58 = .ok (.putfield 48, 3) := by decide +kernel
theorem dX12_ahead_61 : decode cX12_ahead 61 = .ok (.iload_n 1, 1) := by decide +kernel
theorem dX12_ahead_62 : decode cX12_ahead 62 = .ok (.aload_n 0, 1) := by decide +kernel
theorem dX12_ahead_63 : decode cX12_ahead 63 = .ok (.getfield 17, 3) := by decide +kernel
theorem dX12_ahead_66 : decode cX12_ahead 66 = .ok (.if_icmp .lt 4, 3) := by decide +kernel
theorem dX12_ahead_69 : decode cX12_ahead 69 = .ok (.return_, 1) := by decide +kernel
theorem dX12_ahead_70 : decode cX12_ahead 70 = .ok (.aload_n 0, 1) := by decide +kernel
theorem dX12_ahead_71 : decode cX12_ahead 71 = .ok (.getfield 7, 3) := by decide +kernel
theorem dX12_ahead_74 : decode cX12_ahead 74 = .ok (.iload_n 1, 1) := by decide +kernel
theorem dX12_ahead_75 : decode cX12_ahead 75 = .ok (.iaload, 1) := by decide +kernel
theorem dX12_ahead_76 : decode cX12_ahead 76 = .ok (.invokestatic 236, 3) := by decide +kernel
theorem dX12_ahead_79 : decode cX12_ahead 79 = .ok (.istore_n 2, 1) := by decide +kernel
theorem dX12_ahead_80 : decode cX12_ahead 80 = .ok (.aload_n 0, 1) := by decide +kernel
theorem dX12_ahead_81 : decode cX12_ahead 81 = .ok (.getfield 7, 3) := by decide +kernel
theorem dX12_ahead_84 : decode cX12_ahead 84 = .ok (.iload_n 1, 1) := by decide +kernel
theorem dX12_ahead_85 : decode cX12_ahead 85 = .ok (.iaload, 1) := by decide +kernel
theorem dX12_ahead_86 : decode cX12_ahead 86 = .ok (.invokestatic 240, 3) := by decide +kernel
theorem dX12_ahead_89 : decode cX12_ahead 89 = .ok (.istore_n 3, 1) := by decide +kernel
theorem dX12_ahead_90 : decode cX12_ahead 90 = .ok (.iload_n 2, 1) := by decide +kernel
theorem dX12_ahead_91 : decode cX12_ahead 91 = .ok (.ifCond .ne 7, 3) := by decide +kernel
theorem dX12_ahead_94 : decode cX12_ahead 94 = .ok (.iload_n 3, 1) := by decide +kernel
theorem dX12_ahead_95 : decode cX12_ahead 95 = .ok (.ifCond .eq 40, 3) := by decide +kernel
theorem dX12_ahead_98 : decode cX12_ahead 98 = .ok (.iload_n 1, 1) := by decide +kernel
theorem dX12_ahead_99 : decode cX12_ahead 99 = .ok (.ifCond .le 36, 3) := by decide +kernel
theorem dX12_ahead_102 : decode cX12_ahead 102 = .ok (.aload_n 0, 1) := by decide +kernel
theorem dX12_ahead_103 : decode cX12_ahead 103 = .ok (.getfield 7, 3) := by decide +kernel
theorem dX12_ahead_106 : decode cX12_ahead 106 = .ok (.iload_n 1, 1) := by decide +kernel
theorem dX12_ahead_107 : decode cX12_ahead 107 = .ok (.iconst 1, 1) := by decide +kernel
theorem dX12_ahead_108 : decode cX12_ahead 108 = .ok (.isub, 1) := by decide +kernel
theorem dX12_ahead_109 : decode cX12_ahead 109 = .ok (.iaload, 1) := by decide +kernel
theorem dX12_ahead_110 : decode cX12_ahead 110 = .ok (.invokestatic 236, 3) := by decide +kernel
theorem dX12_ahead_113 : decode cX12_ahead 113 = .ok (.ifCond .ne 17, 3) := by decide +kernel
theorem dX12_ahead_116 : decode cX12_ahead 116 = .ok (.aload_n 0, 1) := by decide +kernel
theorem dX12_ahead_117 : decode cX12_ahead 117 = .ok (.getfield 7, 3) := by decide +kernel
theorem dX12_ahead_120 : decode cX12_ahead 120 = .ok (.iload_n 1, 1) := by decide +kernel
theorem dX12_ahead_121 : decode cX12_ahead 121 = .ok (.iconst 1, 1) := by decide +kernel
theorem dX12_ahead_122 : decode cX12_ahead 122 = .ok (.isub, 1) := by decide +kernel
theorem dX12_ahead_123 : decode cX12_ahead 123 = .ok (.iaload, 1) := by decide +kernel
theorem dX12_ahead_124 : decode cX12_ahead 124 = .ok (.invokestatic 240, 3) := by decide +kernel
theorem dX12_ahead_127 : decode cX12_ahead 127 = .ok (.ifCond .eq 8, 3) := by decide +kernel
theorem dX12_ahead_130 : decode cX12_ahead 130 = .ok (.aload_n 0, 1) := by decide +kernel
theorem dX12_ahead_131 : decode cX12_ahead 131 = .ok (.iload_n 1, 1) := by decide +kernel
theorem dX12_ahead_132 : decode cX12_ahead 132 = .ok (.putfield 48, 3) := by decide +kernel
theorem dX12_ahead_135 : decode cX12_ahead 135 = .ok (.aload_n 0, 1) := by decide +kernel
theorem dX12_ahead_136 : decode cX12_ahead 136 = .ok (.iconst 0, 1) := by decide +kernel
theorem dX12_ahead_137 : decode cX12_ahead 137 = .ok (.putfield 29, 3) := by decide +kernel
theorem dX12_ahead_140 : decode cX12_ahead 140 = .ok (.aload_n 0, 1) := by decide +kernel
theorem dX12_ahead_141 : decode cX12_ahead 141 = .ok (.lconst 0, 1) := by decide +kernel
theorem dX12_ahead_142 : decode cX12_ahead 142 = .ok (.putfield 32, 3) := by decide +kernel
theorem dX12_ahead_145 : decode cX12_ahead 145 = .ok (.aload_n 0, 1) := by decide +kernel
theorem dX12_ahead_146 : decode cX12_ahead 146 = .ok (.iconst 3, 1) := by decide +kernel
theorem dX12_ahead_147 : decode cX12_ahead 147 = .ok (.putfield 20, 3) := by decide +kernel
theorem dX12_ahead_150 : decode cX12_ahead 150 = .ok (.aload_n 0, 1) := by decide +kernel
theorem dX12_ahead_151 : decode cX12_ahead 151 = .ok (.iload_n 1, 1) := by decide +kernel
theorem dX12_ahead_152 : decode cX12_ahead 152 = .ok (.iconst 1, 1) := by decide +kernel
theorem dX12_ahead_153 : decode cX12_ahead 153 = .ok (.iadd, 1) := by decide +kernel
theorem dX12_ahead_154 : decode cX12_ahead 154 = .ok (.putfield 26, 3) := by decide +kernel
theorem dX12_ahead_157 : decode cX12_ahead 157 = .ok (.iload_n 2, 1) := by decide +kernel
theorem dX12_ahead_158 : decode cX12_ahead 158 = .ok (.ifCond .ne 18, 3) := by decide +kernel
theorem dX12_ahead_161 : decode cX12_ahead 161 = .ok (.iload_n 3, 1) := by decide +kernel
theorem dX12_ahead_162 : decode cX12_ahead 162 = .ok (.ifCond .ne 14, 3) := by decide +kernel
theorem dX12_ahead_165 : decode cX12_ahead 165 = .ok (.aload_n 0, 1) := by decide +kernel
theorem dX12_ahead_166 : decode cX12_ahead 166 = .ok (.aload_n 0, 1) := by decide +kernel
theorem dX12_ahead_167 : decode cX12_ahead 167 = .ok (.getfield 7, 3) := by decide +kernel
theorem dX12_ahead_170 : decode cX12_ahead 170 = .ok (.iload_n 1, 1) := by decide +kernel
theorem dX12_ahead_171 : decode cX12_ahead 171 = .ok (.iaload, 1) := by decide +kernel
theorem dX12_ahead_172 : decode cX12_ahead 172 = .ok (.putfield 29, 3) := by decide +kernel
theorem dX12_ahead_175 : decode cX12_ahead 175 = .ok (.return_, 1) := by decide +kernel
theorem dX12_ahead_176 : decode cX12_ahead 176 = .ok (.aload_n 0, 1) := by decide +kernel
theorem dX12_ahead_177 : decode cX12_ahead 177 = .ok (.iload_n 2, 1) := by decide +kernel
theorem dX12_ahead_178 : decode cX12_ahead 178 = .ok (.ifCond .eq 7, 3) := by decide +kernel
theorem dX12_ahead_181 : decode cX12_ahead 181 = .ok (.iconst 1, 1) := by decide +kernel
theorem dX12_ahead_182 : decode cX12_ahead 182 = .ok (.goto 4, 3) := by decide +kernel
theorem dX12_ahead_185 : decode cX12_ahead 185 = .ok (.iconst 2, 1) := by decide +kernel
theorem dX12_ahead_186 : decode cX12_ahead 186 = .ok (.putfield 20, 3) := by decide +kernel
theorem dX12_ahead_189 : decode cX12_ahead 189 = .ok (.iload_n 2, 1) := by decide +kernel
theorem dX12_ahead_190 : decode cX12_ahead 190 = .ok (.ifCond .eq 8, 3) := by decide +kernel
theorem dX12_ahead_193 : decode cX12_ahead 193 = .ok (.bipush 6, 2) := by decide +kernel
theorem dX12_ahead_195 : decode cX12_ahead 195 = .ok (.goto 4, 3) := by decide +kernel
theorem dX12_ahead_198 : decode cX12_ahead 198 = .ok (.iconst 4, 1) := by decide +kernel
theorem dX12_ahead_199 : decode cX12_ahead 199 = .ok (.istore 4, 2) := by decide +kernel
theorem dX12_ahead_201 : decode cX12_ahead 201 = .ok (.iconst 0, 1) := by decide +kernel
theorem dX12_ahead_202 : decode cX12_ahead 202 = .ok (.istore 5, 2) := by decide +kernel
theorem dX12_ahead_204 : decode cX12_ahead 204 = .ok (.iload_n 1, 1) := by decide +kernel
theorem dX12_ahead_205 : decode cX12_ahead 205 = .ok (.aload_n 0, 1) := by decide +kernel
theorem dX12_ahead_206 : decode cX12_ahead 206 = .ok (.getfield 17, 3) := by decide +kernel
theorem dX12_ahead_209 : decode cX12_ahead 209 = .ok (.if_icmp .ge 125, 3) := by decide +kernel
theorem dX12_ahead_212 : decode cX12_ahead 212 = .ok (.iload_n 2, 1) := by decide +kernel
theorem dX12_ahead_213 : decode cX12_ahead 213 = .ok (.ifCond .eq 18, 3) := by decide +kernel
theorem dX12_ahead_216 : decode cX12_ahead 216 = .ok (.aload_n 0, 1) := by decide +kernel
theorem dX12_ahead_217 : decode cX12_ahead 217 = .ok (.getfield 7, 3) := by decide +kernel
theorem dX12_ahead_220 : decode cX12_ahead 220 = .ok (.iload_n 1, 1) := by decide +kernel
theorem dX12_ahead_221 : decode cX12_ahead 221 = .ok (.iaload, 1) := by decide +kernel
theorem dX12_ahead_222 : decode cX12_ahead 222 = .ok (.invokestatic 236, 3) := by decide +kernel
theorem dX12_ahead_225 : decode cX12_ahead 225 = .ok (.ifCond .eq 109, 3) := by decide +kernel
theorem dX12_ahead_228 : decode cX12_ahead 228 = .ok (.goto 15, 3) := by decide +kernel
theorem dX12_ahead_231 : decode cX12_ahead 231 = .ok (.aload_n 0, 1) := by decide +kernel
theorem dX12_ahead_232 : decode cX12_ahead 232 = .ok (.getfield 7, 3) := by decide +kernel
theorem dX12_ahead_235 : decode cX12_ahead 235 = .ok (.iload_n 1, 1) := by decide +kernel
theorem dX12_ahead_236 : decode cX12_ahead 236 = .ok (.iaload, 1) := by decide +kernel
theorem dX12_ahead_237 : decode cX12_ahead 237 = .ok (.invokestatic 240, 3) := by decide +kernel
theorem dX12_ahead_240 : decode cX12_ahead 240 = .ok (.ifCond .eq 94, 3) := by decide +kernel
theorem dX12_ahead_243 : decode cX12_ahead 243 = .ok (.iload 5, 2) := by decide +kernel
theorem dX12_ahead_245 : decode cX12_ahead 245 = .ok (.iload 4, 2) := by decide +kernel
theorem dX12_ahead_247 : decode cX12_ahead 247 = .ok (.if_icmp .ne 16, 3) := by decide +kernel
theorem dX12_ahead_250 : decode cX12_ahead 250 = .ok (.aload_n 0, 1) := by decide +kernel
theorem dX12_ahead_251 : decode cX12_ahead 251 = .ok (.getfield 48, 3) := by decide +kernel
theorem dX12_ahead_254 : decode cX12_ahead 254 = .ok (.iconst (-1), 1) := by decide +kernel
theorem dX12_ahead_255 : decode cX12_ahead 255 = .ok (.if_icmp .ne 8, 3) := by decide +kernel
theorem dX12_ahead_258 : decode cX12_ahead 258 = .ok (.aload_n 0, 1) := by decide +kernel
theorem dX12_ahead_259 : decode cX12_ahead 259 = .ok (.iload_n 1, 1) := by decide +kernel
theorem dX12_ahead_260 : decode cX12_ahead 260 = .ok (.putfield 48, 3) := by decide +kernel
theorem dX12_ahead_263 : decode cX12_ahead 263 = .ok (.iload 5, 2) := by decide +kernel
theorem dX12_ahead_265 : decode cX12_ahead 265 = .ok (.iload 4, 2) := by decide +kernel
theorem dX12_ahead_267 : decode cX12_ahead 267 = .ok (.if_icmp .ge 26, 3) := by decide +kernel
theorem dX12_ahead_270 : decode cX12_ahead 270 = .ok (.iload_n 2, 1) := by decide +kernel
theorem dX12_ahead_271 : decode cX12_ahead 271 = .ok (.ifCond .eq 22, 3) := by decide +kernel
theorem dX12_ahead_274 : decode cX12_ahead 274 = .ok (.aload_n 0, 1) := by decide +kernel
theorem dX12_ahead_275 : decode cX12_ahead 275 = .ok (.aload_n 0, 1) := by decide +kernel
theorem dX12_ahead_276 : decode cX12_ahead 276 = .ok (.getfield 32, 3) := by decide +kernel
theorem dX12_ahead_279 : decode cX12_ahead 279 = .ok (.bipush 8, 2) := by decide +kernel
theorem dX12_ahead_281 : decode cX12_ahead 281 = .ok (.lshl, 1) := by decide +kernel
theorem dX12_ahead_282 : decode cX12_ahead 282 = .ok (.aload_n 0, 1) := by decide +kernel
theorem dX12_ahead_283 : decode cX12_ahead 283 = .ok (.getfield 7, 3) := by decide +kernel
theorem dX12_ahead_286 : decode cX12_ahead 286 = .ok (.iload_n 1, 1) := by decide +kernel
theorem dX12_ahead_287 : decode cX12_ahead 287 = .ok (.iaload, 1) := by decide +kernel
theorem dX12_ahead_288 : decode cX12_ahead 288 = .ok (.i2l, 1) := by decide +kernel
theorem dX12_ahead_289 : decode cX12_ahead 289 = .ok (.lor, 1) := by decide +kernel
theorem dX12_ahead_290 : decode cX12_ahead 290 = .ok (.putfield 32, 3) := by decide +kernel
theorem dX12_ahead_293 : decode cX12_ahead 293 = .ok (.iload 5, 2) := by decide +kernel
theorem dX12_ahead_295 : decode cX12_ahead 295 = .ok (.iload 4, 2) := by decide +kernel
theorem dX12_ahead_297 : decode cX12_ahead 297 = .ok (.if_icmp .ge 28, 3) := by decide +kernel
theorem dX12_ahead_300 : decode cX12_ahead 300 = .ok (.iload_n 3, 1) := by decide +kernel
theorem dX12_ahead_301 : decode cX12_ahead 301 = .ok (.ifCond .eq 24, 3) := by decide +kernel
theorem dX12_ahead_304 : decode cX12_ahead 304 = .ok (.aload_n 0, 1) := by decide +kernel
theorem dX12_ahead_305 : decode cX12_ahead 305 = .ok (.bipush 10, 2) := by decide +kernel
theorem dX12_ahead_307 : decode cX12_ahead 307 = .ok (.aload_n 0, 1) := by decide +kernel
theorem dX12_ahead_308 : decode cX12_ahead 308 = .ok (.getfield 29, 3) := by decide +kernel
theorem dX12_ahead_311 : decode cX12_ahead 311 = .ok (.imul, 1) := by decide +kernel
theorem dX12_ahead_312 : decode cX12_ahead 312 = .ok (.aload_n 0, 1) := by decide +kernel
theorem dX12_ahead_313 : decode cX12_ahead 313 = .ok (.getfield 7, 3) := by decide +kernel
theorem dX12_ahead_316 : decode cX12_ahead 316 = .ok (.iload_n 1, 1) := by decide +kernel
theorem dX12_ahead_317 : decode cX12_ahead 317 = .ok (.iaload, 1) := by decide +kernel
theorem dX12_ahead_318 : decode cX12_ahead 318 = .ok (.iadd, 1) := by decide +kernel
theorem dX12_ahead_319 : decode cX12_ahead 319 = .ok (.bipush 48, 2) := by decide +kernel
theorem dX12_ahead_321 : decode cX12_ahead 321 = .ok (.isub, 1) := by decide +kernel
theorem dX12_ahead_322 : decode cX12_ahead 322 = .ok (.putfield 29, 3) := by decide +kernel
theorem dX12_ahead_325 : decode cX12_ahead 325 = .ok (.iinc 5 1, 3) := by decide +kernel
theorem dX12_ahead_328 : decode cX12_ahead 328 = .ok (.iinc 1 1, 3) := by decide +kernel
theorem dX12_ahead_331 : decode cX12_ahead 331 = .ok (.goto (-127), 3) := by decide +kernel
theorem dX12_ahead_334 : decode cX12_ahead 334 = .ok (.aload_n 0, 1) := by decide +kernel
theorem dX12_ahead_335 : decode cX12_ahead 335 = .ok (.iload_n 1, 1) := by decide +kernel
theorem dX12_ahead_336 : decode cX12_ahead 336 = .ok (.putfield 26, 3) := by decide +kernel
theorem dX12_ahead_339 : decode cX12_ahead 339 = .ok (.return_, 1) := by decide +kernel
theorem dX12_isSign_0 : decode cX12_isSign 0 = .ok (.aload_n 0, 1) := by decide +kernel
theorem dX12_isSign_1 : decode cX12_isSign 1 = .ok (.getfield 20, 3) := by decide +kernel
theorem dX12_isSign_4 : decode cX12_isSign 4 = .ok (.iconst 3, 1) := by decide +kernel
theorem dX12_isSign_5 : decode cX12_isSign 5 = .ok (.if_icmp .ne 15, 3) := by decide +kernel
theorem dX12_isSign_8 : decode cX12_isSign 8 = .ok (.aload_n 0, 1) := by decide +kernel
theorem dX12_isSign_9 : decode cX12_isSign 9 = .ok (.getfield 29, 3) := by decide +kernel
theorem dX12_isSign_12 : decode cX12_isSign 12 = .ok (.iload_n 1, 1) := by decide +kernel
theorem dX12_isSign_13 : decode cX12_isSign 13 = .ok (.if_icmp .ne 7, 3) := by decide +kernel
theorem dX12_isSign_16 : decode cX12_isSign 16 = .ok (.iconst 1, 1) := by decide +kernel
theorem dX12_isSign_17 : decode cX12_isSign 17 = .ok (.goto 4, 3) := by decide +kernel
theorem dX12_isSign_20 : decode cX12_isSign 20 = .ok (.iconst 0, 1) := by decide +kernel
theorem dX12_isSign_21 : decode cX12_isSign 21 = .ok (.ireturn, 1) := by decide +kernel
theorem dX12_isWord_0 : decode cX12_isWord 0 = .ok (.aload_n 0, 1) := by decide +kernel
theorem dX12_isWord_1 : decode cX12_isWord 1 = .ok (.getfield 20, 3) := by decide +kernel
theorem dX12_isWord_4 : decode cX12_isWord 4 = .ok (.iconst 1, 1) := by decide +kernel
theorem dX12_isWord_5 : decode cX12_isWord 5 = .ok (.if_icmp .ne 16, 3) := by decide +kernel
theorem dX12_isWord_8 : decode cX12_isWord 8 = .ok (.aload_n 0, 1) := by decide +kernel
theorem dX12_isWord_9 : decode cX12_isWord 9 = .ok (.getfield 32, 3) := by decide +kernel
theorem dX12_isWord_12 : decode cX12_isWord 12 = .ok (.lload_n 1, 1) := by decide +kernel
theorem dX12_isWord_13 : decode cX12_isWord 13 = .ok (.lcmp, 1) := by decide +kernel
theorem dX12_isWord_14 : decode cX12_isWord 14 = .ok (.ifCond .ne 7, 3) := by decide +kernel
theorem dX12_isWord_17 : decode cX12_isWord 17 = .ok (.iconst 1, 1) := by decide +kernel
theorem dX12_isWord_18 : decode cX12_isWord 18 = .ok (.goto 4, 3) := by decide +kernel
theorem dX12_isWord_21 : decode cX12_isWord 21 = .ok (.iconst 0, 1) := by decide +kernel
theorem dX12_isWord_22 : decode cX12_isWord 22 = .ok (.ireturn, 1) := by decide +kernel
theorem dX12_must_0 : decode cX12_must 0 = .ok (.aload_n 0, 1) := by decide +kernel
theorem dX12_must_1 : decode cX12_must 1 = .ok (.invokevirtual 243, 3) := by decide +kernel
theorem dX12_must_4 : decode cX12_must 4 = .ok (.aload_n 0, 1) := by decide +kernel
theorem dX12_must_5 : decode cX12_must 5 = .ok (.iload_n 1, 1) := by decide +kernel
theorem dX12_must_6 : decode cX12_must 6 = .ok (.invokevirtual 246, 3) := by decide +kernel
theorem dX12_must_9 : decode cX12_must 9 = .ok (.ifCond .ne 12, 3) := by decide +kernel
theorem dX12_must_12 : decode cX12_must 12 = .ok (.aload_n 0, 1) := by decide +kernel
theorem dX12_must_13 : decode cX12_must 13 = .ok (.iconst 1, 1) := by decide +kernel
theorem dX12_must_14 : decode cX12_must 14 = .ok (.aload_n 0, 1) := by decide +kernel
theorem dX12_must_15 : decode cX12_must 15 = .ok (.getfield 23, 3) := by decide +kernel
theorem dX12_must_18 : decode cX12_must 18 = .ok (.invokevirtual 232, 3) := by decide +kernel
theorem dX12_must_21 : decode cX12_must 21 = .ok (.aload_n 0, 1) := by decide +kernel
theorem dX12_must_22 : decode cX12_must 22 = .ok (.getfield 36, 3) := by decide +kernel
theorem dX12_must_25 : decode cX12_must 25 = .ok (.ifCond .ne 7, 3) := by decide +kernel
theorem dX12_must_28 : decode cX12_must 28 = .ok (.aload_n 0, 1) := by decide +kernel
theorem dX12_must_29 : decode cX12_must 29 = .ok (.invokevirtual 249, 3) := by decide +kernel
theorem dX12_must_32 : decode cX12_must 32 = .ok (.return_, 1) := by decide +kernel
theorem dX12_isOwn_0 : decode cX12_isOwn 0 = .ok (.lload_n 1, 1) := by decide +kernel
theorem dX12_isOwn_1 : decode cX12_isOwn 1 = .ok (.ldc2_w 252, 3) := by decide +kernel
theorem dX12_isOwn_4 : decode cX12_isOwn 4 = .ok (.lcmp, 1) := by decide +kernel
theorem dX12_isOwn_5 : decode cX12_isOwn 5 = .ok (.ifCond .eq 35, 3) := by decide +kernel
theorem dX12_isOwn_8 : decode cX12_isOwn 8 = .ok (.lload_n 1, 1) := by decide +kernel
theorem dX12_isOwn_9 : decode cX12_isOwn 9 = .ok (.ldc2_w 254, 3) := by decide +kernel
theorem dX12_isOwn_12 : decode cX12_isOwn 12 = .ok (.lcmp, 1) := by decide +kernel
theorem dX12_isOwn_13 : decode cX12_isOwn 13 = .ok (.ifCond .eq 27, 3) := by decide +kernel
theorem dX12_isOwn_16 : decode cX12_isOwn 16 = .ok (.lload_n 1, 1) := by decide +kernel
theorem dX12_isOwn_17 : decode cX12_isOwn 17 = .ok (.ldc2_w 256, 3) := by decide +kernel
theorem dX12_isOwn_20 : decode cX12_isOwn 20 = .ok (.lcmp, 1) := by decide +kernel
theorem dX12_isOwn_21 : decode cX12_isOwn 21 = .ok (.ifCond .eq 19, 3) := by decide +kernel
theorem dX12_isOwn_24 : decode cX12_isOwn 24 = .ok (.lload_n 1, 1) := by decide +kernel
theorem dX12_isOwn_25 : decode cX12_isOwn 25 = .ok (.ldc2_w 258, 3) := by decide +kernel
theorem dX12_isOwn_28 : decode cX12_isOwn 28 = .ok (.lcmp, 1) := by decide +kernel
theorem dX12_isOwn_29 : decode cX12_isOwn 29 = .ok (.ifCond .eq 11, 3) := by decide +kernel
theorem dX12_isOwn_32 : decode cX12_isOwn 32 = .ok (.lload_n 1, 1) := by decide +kernel
theorem dX12_isOwn_33 : decode cX12_isOwn 33 = .ok (.ldc2_w 260, 3) := by decide +kernel
theorem dX12_isOwn_36 : decode cX12_isOwn 36 = .ok (.lcmp, 1) := by decide +kernel
theorem dX12_isOwn_37 : decode cX12_isOwn 37 = .ok (.ifCond .ne 5, 3) := by decide +kernel
theorem dX12_isOwn_40 : decode cX12_isOwn 40 = .ok (.iconst 1, 1) := by decide +kernel
theorem dX12_isOwn_41 : decode cX12_isOwn 41 = .ok (.ireturn, 1) := by decide +kernel
theorem dX12_isOwn_42 : decode cX12_isOwn 42 = .ok (.lload_n 1, 1) := by decide +kernel
theorem dX12_isOwn_43 : decode cX12_isOwn 43 = .ok (.ldc2_w 262, 3) := by decide +kernel
theorem dX12_isOwn_46 : decode cX12_isOwn 46 = .ok (.lcmp, 1) := by decide +kernel
theorem dX12_isOwn_47 : decode cX12_isOwn 47 = .ok (.ifCond .eq 35, 3) := by decide +kernel
theorem dX12_isOwn_50 : decode cX12_isOwn 50 = .ok (.lload_n 1, 1) := by decide +kernel
theorem dX12_isOwn_51 : decode cX12_isOwn 51 = .ok (.ldc2_w 264, 3) := by decide +kernel
theorem dX12_isOwn_54 : decode cX12_isOwn 54 = .ok (.lcmp, 1) := by decide +kernel
theorem dX12_isOwn_55 : decode cX12_isOwn 55 = .ok (.ifCond .eq 27, 3) := by decide +kernel
theorem dX12_isOwn_58 : decode cX12_isOwn 58 = .ok (.lload_n 1, 1) := by decide +kernel
theorem dX12_isOwn_59 : decode cX12_isOwn 59 = .ok (.ldc2_w 266, 3) := by decide +kernel
theorem dX12_isOwn_62 : decode cX12_isOwn 62 = .ok (.lcmp, 1) := by decide +kernel
theorem dX12_isOwn_63 : decode cX12_isOwn 63 = .ok (.ifCond .eq 19, 3) := by decide +kernel
theorem dX12_isOwn_66 : decode cX12_isOwn 66 = .ok (.lload_n 1, 1) := by decide +kernel
theorem dX12_isOwn_67 : decode cX12_isOwn 67 = .ok (.ldc2_w 268, 3) := by decide +kernel
theorem dX12_isOwn_70 : decode cX12_isOwn 70 = .ok (.lcmp, 1) := by decide +kernel
theorem dX12_isOwn_71 : decode cX12_isOwn 71 = .ok (.ifCond .eq 11, 3) := by decide +kernel
theorem dX12_isOwn_74 : decode cX12_isOwn 74 = .ok (.lload_n 1, 1) := by decide +kernel
theorem dX12_isOwn_75 : decode cX12_isOwn 75 = .ok (.ldc2_w 270, 3) := by decide +kernel
theorem dX12_isOwn_78 : decode cX12_isOwn 78 = .ok (.lcmp, 1) := by decide +kernel
theorem dX12_isOwn_79 : decode cX12_isOwn 79 = .ok (.ifCond .ne 5, 3) := by decide +kernel
theorem dX12_isOwn_82 : decode cX12_isOwn 82 = .ok (.iconst 1, 1) := by decide +kernel
theorem dX12_isOwn_83 : decode cX12_isOwn 83 = .ok (.ireturn, 1) := by decide +kernel
theorem dX12_isOwn_84 : decode cX12_isOwn 84 = .ok (.lload_n 1, 1) := by decide +kernel
theorem dX12_isOwn_85 : decode cX12_isOwn 85 = .ok (.ldc2_w 272, 3) := by decide +kernel
theorem dX12_isOwn_88 : decode cX12_isOwn 88 = .ok (.lcmp, 1) := by decide +kernel
theorem dX12_isOwn_89 : decode cX12_isOwn 89 = .ok (.ifCond .eq 35, 3) := by decide +kernel
theorem dX12_isOwn_92 : decode cX12_isOwn 92 = .ok (.lload_n 1, 1) := by decide +kernel
theorem dX12_isOwn_93 : decode cX12_isOwn 93 = .ok (.ldc2_w 274, 3) := by decide +kernel
theorem dX12_isOwn_96 : decode cX12_isOwn 96 = .ok (.lcmp, 1) := by decide +kernel
theorem dX12_isOwn_97 : decode cX12_isOwn 97 = .ok (.ifCond .eq 27, 3) := by decide +kernel
theorem dX12_isOwn_100 : decode cX12_isOwn 100 = .ok (.lload_n 1, 1) := by decide +kernel
theorem dX12_isOwn_101 : decode cX12_isOwn 101 = .ok (.ldc2_w 276, 3) := by decide +kernel
theorem dX12_isOwn_104 : decode cX12_isOwn 104 = .ok (.lcmp, 1) := by decide +kernel
theorem dX12_isOwn_105 : decode cX12_isOwn 105 = .ok (.ifCond .eq 19, 3) := by decide +kernel
theorem dX12_isOwn_108 : decode cX12_isOwn 108 = .ok (.lload_n 1, 1) := by decide +kernel
theorem dX12_isOwn_109 : decode cX12_isOwn 109 = .ok (.ldc2_w 278, 3) := by decide +kernel
theorem dX12_isOwn_112 : decode cX12_isOwn 112 = .ok (.lcmp, 1) := by decide +kernel
theorem dX12_isOwn_113 : decode cX12_isOwn 113 = .ok (.ifCond .eq 11, 3) := by decide +kernel
theorem dX12_isOwn_116 : decode cX12_isOwn 116 = .ok (.lload_n 1, 1) := by decide +kernel
theorem dX12_isOwn_117 : decode cX12_isOwn 117 = .ok (.ldc2_w 280, 3) := by decide +kernel
theorem dX12_isOwn_120 : decode cX12_isOwn 120 = .ok (.lcmp, 1) := by decide +kernel
theorem dX12_isOwn_121 : decode cX12_isOwn 121 = .ok (.ifCond .ne 5, 3) := by decide +kernel
theorem dX12_isOwn_124 : decode cX12_isOwn 124 = .ok (.iconst 1, 1) := by decide +kernel
theorem dX12_isOwn_125 : decode cX12_isOwn 125 = .ok (.ireturn, 1) := by decide +kernel
theorem dX12_isOwn_126 : decode cX12_isOwn 126 = .ok (.lload_n 1, 1) := by decide +kernel
theorem dX12_isOwn_127 : decode cX12_isOwn 127 = .ok (.ldc2_w 282, 3) := by decide +kernel
theorem dX12_isOwn_130 : decode cX12_isOwn 130 = .ok (.lcmp, 1) := by decide +kernel
theorem dX12_isOwn_131 : decode cX12_isOwn 131 = .ok (.ifCond .eq 35, 3) := by decide +kernel
theorem dX12_isOwn_134 : decode cX12_isOwn 134 = .ok (.lload_n 1, 1) := by decide +kernel
theorem dX12_isOwn_135 : decode cX12_isOwn 135 = .ok (.ldc2_w 284, 3) := by decide +kernel
theorem dX12_isOwn_138 : decode cX12_isOwn 138 = .ok (.lcmp, 1) := by decide +kernel
theorem dX12_isOwn_139 : decode cX12_isOwn 139 = .ok (.ifCond .eq 27, 3) := by decide +kernel
theorem dX12_isOwn_142 : decode cX12_isOwn 142 = .ok (.lload_n 1, 1) := by decide +kernel
theorem dX12_isOwn_143 : decode cX12_isOwn 143 = .ok (.ldc2_w 286, 3) := by decide +kernel
theorem dX12_isOwn_146 : decode cX12_isOwn 146 = .ok (.lcmp, 1) := by decide +kernel
theorem dX12_isOwn_147 : decode cX12_isOwn 147 = .ok (.ifCond .eq 19, 3) := by decide +kernel
theorem dX12_isOwn_150 : decode cX12_isOwn 150 = .ok (.lload_n 1, 1) := by decide +kernel
theorem dX12_isOwn_151 : decode cX12_isOwn 151 = .ok (.ldc2_w 288, 3) := by decide +kernel
theorem dX12_isOwn_154 : decode cX12_isOwn 154 = .ok (.lcmp, 1) := by decide +kernel
theorem dX12_isOwn_155 : decode cX12_isOwn 155 = .ok (.ifCond .eq 11, 3) := by decide +kernel
theorem dX12_isOwn_158 : decode cX12_isOwn 158 = .ok (.lload_n 1, 1) := by decide +kernel
theorem dX12_isOwn_159 : decode cX12_isOwn 159 = .ok (.ldc2_w 290, 3) := by decide +kernel
theorem dX12_isOwn_162 : decode cX12_isOwn 162 = .ok (.lcmp, 1) := by decide +kernel
theorem dX12_isOwn_163 : decode cX12_isOwn 163 = .ok (.ifCond .ne 5, 3) := by decide +kernel
theorem dX12_isOwn_166 : decode cX12_isOwn 166 = .ok (.iconst 1, 1) := by decide +kernel
theorem dX12_isOwn_167 : decode cX12_isOwn 167 = .ok (.ireturn, 1) := by decide +kernel
theorem dX12_isOwn_168 : decode cX12_isOwn 168 = .ok (.lload_n 1, 1) := by decide +kernel
theorem dX12_isOwn_169 : decode cX12_isOwn 169 = .ok (.ldc2_w 292, 3) := by decide +kernel
theorem dX12_isOwn_172 : decode cX12_isOwn 172 = .ok (.lcmp, 1) := by decide +kernel
theorem dX12_isOwn_173 : decode cX12_isOwn 173 = .ok (.ifCond .eq 35, 3) := by decide +kernel
theorem dX12_isOwn_176 : decode cX12_isOwn 176 = .ok (.lload_n 1, 1) := by decide +kernel
theorem dX12_isOwn_177 : decode cX12_isOwn 177 = .ok (.ldc2_w 294, 3) := by decide +kernel
theorem dX12_isOwn_180 : decode cX12_isOwn 180 = .ok (.lcmp, 1) := by decide +kernel
theorem dX12_isOwn_181 : decode cX12_isOwn 181 = .ok (.ifCond .eq 27, 3) := by decide +kernel
theorem dX12_isOwn_184 : decode cX12_isOwn 184 = .ok (.lload_n 1, 1) := by decide +kernel
theorem dX12_isOwn_185 : decode cX12_isOwn 185 = .ok (.ldc2_w 296, 3) := by decide +kernel
theorem dX12_isOwn_188 : decode cX12_isOwn 188 = .ok (.lcmp, 1) := by decide +kernel
theorem dX12_isOwn_189 : decode cX12_isOwn 189 = .ok (.ifCond .eq 19, 3) := by decide +kernel
theorem dX12_isOwn_192 : decode cX12_isOwn 192 = .ok (.lload_n 1, 1) := by decide +kernel
theorem dX12_isOwn_193 : decode cX12_isOwn 193 = .ok (.ldc2_w 298, 3) := by decide +kernel
theorem dX12_isOwn_196 : decode cX12_isOwn 196 = .ok (.lcmp, 1) := by decide +kernel
theorem dX12_isOwn_197 : decode cX12_isOwn 197 = .ok (.ifCond .eq 11, 3) := by decide +kernel
theorem dX12_isOwn_200 : decode cX12_isOwn 200 = .ok (.lload_n 1, 1) := by decide +kernel
theorem dX12_isOwn_201 : decode cX12_isOwn 201 = .ok (.ldc2_w 300, 3) := by decide +kernel
theorem dX12_isOwn_204 : decode cX12_isOwn 204 = .ok (.lcmp, 1) := by decide +kernel
theorem dX12_isOwn_205 : decode cX12_isOwn 205 = .ok (.ifCond .ne 5, 3) := by decide +kernel
theorem dX12_isOwn_208 : decode cX12_isOwn 208 = .ok (.iconst 1, 1) := by decide +kernel
theorem dX12_isOwn_209 : decode cX12_isOwn 209 = .ok (.ireturn, 1) := by decide +kernel
theorem dX12_isOwn_210 : decode cX12_isOwn 210 = .ok (.lload_n 1, 1) := by decide +kernel
theorem dX12_isOwn_211 : decode cX12_isOwn 211 = .ok (.ldc2_w 302, 3) := by decide +kernel
theorem dX12_isOwn_214 : decode cX12_isOwn 214 = .ok (.lcmp, 1) := by decide +kernel
theorem dX12_isOwn_215 : decode cX12_isOwn 215 = .ok (.ifCond .eq 27, 3) := by decide +kernel
theorem dX12_isOwn_218 : decode cX12_isOwn 218 = .ok (.lload_n 1, 1) := by decide +kernel
theorem dX12_isOwn_219 : decode cX12_isOwn 219 = .ok (.ldc2_w 304, 3) := by decide +kernel
theorem dX12_isOwn_222 : decode cX12_isOwn 222 = .ok (.lcmp, 1) := by decide +kernel
theorem dX12_isOwn_223 : decode cX12_isOwn 223 = .ok (.ifCond .eq 19, 3) := by decide +kernel
theorem dX12_isOwn_226 : decode cX12_isOwn 226 = .ok (.lload_n 1, 1) := by decide +kernel
theorem dX12_isOwn_227 : decode cX12_isOwn 227 = .ok (.ldc2_w 306, 3) := by decide +kernel
theorem dX12_isOwn_230 : decode cX12_isOwn 230 = .ok (.lcmp, 1) := by decide +kernel
theorem dX12_isOwn_231 : decode cX12_isOwn 231 = .ok (.ifCond .eq 11, 3) := by decide +kernel
theorem dX12_isOwn_234 : decode cX12_isOwn 234 = .ok (.lload_n 1, 1) := by decide +kernel
theorem dX12_isOwn_235 : decode cX12_isOwn 235 = .ok (.ldc2_w 308, 3) := by decide +kernel
theorem dX12_isOwn_238 : decode cX12_isOwn 238 = .ok (.lcmp, 1) := by decide +kernel
theorem dX12_isOwn_239 : decode cX12_isOwn 239 = .ok (.ifCond .ne 5, 3) := by decide +kernel
theorem dX12_isOwn_242 : decode cX12_isOwn 242 = .ok (.iconst 1, 1) := by decide +kernel
theorem dX12_isOwn_243 : decode cX12_isOwn 243 = .ok (.ireturn, 1) := by decide +kernel
theorem dX12_isOwn_244 : decode cX12_isOwn 244 = .ok (.iconst 0, 1) := by decide +kernel
theorem dX12_isOwn_245 : decode cX12_isOwn 245 = .ok (.ireturn, 1) := by decide +kernel
theorem dX12_askedIn_0 : decode cX12_askedIn 0 = .ok (.iload_n 0, 1) := by decide +kernel
theorem dX12_askedIn_1 : decode cX12_askedIn 1 = .ok (.ifCond .ne 8, 3) := by decide +kernel
theorem dX12_askedIn_4 : decode cX12_askedIn 4 = .ok (.bipush 30, 2) := by decide +kernel
theorem dX12_askedIn_6 : decode cX12_askedIn 6 = .ok (.goto 28, 3) := by decide +kernel
theorem dX12_askedIn_9 : decode cX12_askedIn 9 = .ok (.iload_n 0, 1) := by decide +kernel
theorem dX12_askedIn_10 : decode cX12_askedIn 10 = .ok (.iconst 1, 1) := by decide +kernel
theorem dX12_askedIn_11 : decode cX12_askedIn 11 = .ok (.if_icmp .ne 9, 3) := by decide +kernel
theorem dX12_askedIn_14 : decode cX12_askedIn 14 = .ok (.sipush 230, 3) := by decide +kernel
theorem dX12_askedIn_17 : decode cX12_askedIn 17 = .ok (.goto 17, 3) := by decide +kernel
theorem dX12_askedIn_20 : decode cX12_askedIn 20 = .ok (.iload_n 0, 1) := by decide +kernel
theorem dX12_askedIn_21 : decode cX12_askedIn 21 = .ok (.iconst 2, 1) := by decide +kernel
theorem dX12_askedIn_22 : decode cX12_askedIn 22 = .ok (.if_icmp .ne 9, 3) := by decide +kernel
theorem dX12_askedIn_25 : decode cX12_askedIn 25 = .ok (.sipush 1538, 3) := by decide +kernel
theorem dX12_askedIn_28 : decode cX12_askedIn 28 = .ok (.goto 6, 3) := by decide +kernel
theorem dX12_askedIn_31 : decode cX12_askedIn 31 = .ok (.sipush 354, 3) := by decide +kernel
theorem dX12_askedIn_34 : decode cX12_askedIn 34 = .ok (.ireturn, 1) := by decide +kernel
theorem dX12_pathNamed_0 : decode cX12_pathNamed 0 = .ok (.iconst 0, 1) := by decide +kernel
theorem dX12_pathNamed_1 : decode cX12_pathNamed 1 = .ok (.istore_n 3, 1) := by decide +kernel
theorem dX12_pathNamed_2 : decode cX12_pathNamed 2 = .ok (.iload_n 3, 1) := by decide +kernel
theorem dX12_pathNamed_3 : decode cX12_pathNamed 3 = .ok (.aload_n 0, 1) := by decide +kernel
theorem dX12_pathNamed_4 : decode cX12_pathNamed 4 = .ok (.getfield 66, 3) := by decide +kernel
theorem dX12_pathNamed_7 : decode cX12_pathNamed 7 = .ok (.aload_n 0, 1) := by decide +kernel
theorem dX12_pathNamed_8 : decode cX12_pathNamed 8 = .ok (.getfield 100, 3) := by decide +kernel
theorem dX12_pathNamed_11 : decode cX12_pathNamed 11 = .ok (.iaload, 1) := by decide +kernel
theorem dX12_pathNamed_12 : decode cX12_pathNamed 12 = .ok (.if_icmp .ge 29, 3) := by decide +kernel
theorem dX12_pathNamed_15 : decode cX12_pathNamed 15 = .ok (.aload_n 0, 1) := by decide +kernel
theorem dX12_pathNamed_16 : decode cX12_pathNamed 16 = .ok (.getfield 93, 3) := by decide +kernel
theorem dX12_pathNamed_19 : decode cX12_pathNamed 19 = .ok (.iconst 4, 1) := by decide +kernel
theorem dX12_pathNamed_20 : decode cX12_pathNamed 20 = .ok (.aload_n 0, 1) := by decide +kernel
theorem dX12_pathNamed_21 : decode cX12_pathNamed 21 = .ok (.getfield 100, 3) := by decide +kernel
theorem dX12_pathNamed_24 : decode cX12_pathNamed 24 = .ok (.imul, 1) := by decide +kernel
theorem dX12_pathNamed_25 : decode cX12_pathNamed 25 = .ok (.iload_n 3, 1) := by decide +kernel
theorem dX12_pathNamed_26 : decode cX12_pathNamed 26 = .ok (.iadd, 1) := by decide +kernel
theorem dX12_pathNamed_27 : decode cX12_pathNamed 27 = .ok (.laload, 1) := by decide +kernel
theorem dX12_pathNamed_28 : decode cX12_pathNamed 28 = .ok (.lload_n 1, 1) := by decide +kernel
theorem dX12_pathNamed_29 : decode cX12_pathNamed 29 = .ok (.lcmp, 1) := by decide +kernel
theorem dX12_pathNamed_30 : decode cX12_pathNamed 30 = .ok (.ifCond .ne 5, 3) := by decide +kernel
theorem dX12_pathNamed_33 : decode cX12_pathNamed 33 = .ok (.iload_n 3, 1) := by decide +kernel
theorem dX12_pathNamed_34 : decode cX12_pathNamed 34 = .ok (.ireturn, 1) := by decide +kernel
theorem dX12_pathNamed_35 : decode cX12_pathNamed 35 = .ok (.iinc 3 1, 3) := by decide +kernel
theorem dX12_pathNamed_38 : decode cX12_pathNamed 38 = .ok (.goto (-36), 3) := by decide +kernel
theorem dX12_pathNamed_41 : decode cX12_pathNamed 41 = .ok (.iconst (-1), 1) := by decide +kernel
theorem dX12_pathNamed_42 : decode cX12_pathNamed 42 = .ok (.ireturn, 1) := by decide +kernel
theorem dX12_number_0 : decode cX12_number 0 = .ok (.aload_n 0, 1) := by decide +kernel
theorem dX12_number_1 : decode cX12_number 1 = .ok (.invokevirtual 243, 3) := by decide +kernel
theorem dX12_number_4 : decode cX12_number 4 = .ok (.aload_n 0, 1) := by decide +kernel
theorem dX12_number_5 : decode cX12_number 5 = .ok (.getfield 36, 3) := by decide +kernel
theorem dX12_number_8 : decode cX12_number 8 = .ok (.ifCond .le 5, 3) := by decide +kernel
theorem dX12_number_11 : decode cX12_number 11 = .ok (.iconst 0, 1) := by decide +kernel
theorem dX12_number_12 : decode cX12_number 12 = .ok (.ireturn, 1) := by decide +kernel
theorem dX12_number_13 : decode cX12_number 13 = .ok (.aload_n 0, 1) := by decide +kernel
theorem dX12_number_14 : decode cX12_number 14 = .ok (.getfield 20, 3) := by decide +kernel
theorem dX12_number_17 : decode cX12_number 17 = .ok (.iconst 2, 1) := by decide +kernel
theorem dX12_number_18 : decode cX12_number 18 = .ok (.if_icmp .eq 12, 3) := by decide +kernel
theorem dX12_number_21 : decode cX12_number 21 = .ok (.aload_n 0, 1) := by decide +kernel
theorem dX12_number_22 : decode cX12_number 22 = .ok (.iconst 1, 1) := by decide +kernel
theorem dX12_number_23 : decode cX12_number 23 = .ok (.aload_n 0, 1) := by decide +kernel
theorem dX12_number_24 : decode cX12_number 24 = .ok (.getfield 23, 3) := by decide +kernel
theorem dX12_number_27 : decode cX12_number 27 = .ok (.invokevirtual 232, 3) := by decide +kernel
theorem dX12_number_30 : decode cX12_number 30 = .ok (.aload_n 0, 1) := by decide +kernel
theorem dX12_number_31 : decode cX12_number 31 = .ok (.getfield 36, 3) := by decide +kernel
theorem dX12_number_34 : decode cX12_number 34 = .ok (.ifCond .ne 24, 3) := by decide +kernel
theorem dX12_number_37 : decode cX12_number 37 = .ok (.aload_n 0, 1) := by decide +kernel
theorem dX12_number_38 : decode cX12_number 38 = .ok (.getfield 29, 3) := by decide +kernel
theorem dX12_number_41 : decode cX12_number 41 = .ok (.iload_n 1, 1) := by decide +kernel
theorem dX12_number_42 : decode cX12_number 42 = .ok (.iload_n 2, 1) := by decide +kernel
theorem dX12_number_43 : decode cX12_number 43 = .ok (.invokestatic 310, 3) := by decide +kernel
theorem dX12_number_46 : decode cX12_number 46 = .ok (.ifCond .ne 12, 3) := by decide +kernel
theorem dX12_number_49 : decode cX12_number 49 = .ok (.aload_n 0, 1) := by decide +kernel
theorem dX12_number_50 : decode cX12_number 50 = .ok (.iconst 4, 1) := by decide +kernel
theorem dX12_number_51 : decode cX12_number 51 = .ok (.aload_n 0, 1) := by decide +kernel
theorem dX12_number_52 : decode cX12_number 52 = .ok (.getfield 23, 3) := by decide +kernel
theorem dX12_number_55 : decode cX12_number 55 = .ok (.invokevirtual 232, 3) := by decide +kernel
theorem dX12_number_58 : decode cX12_number 58 = .ok (.aload_n 0, 1) := by decide +kernel
theorem dX12_number_59 : decode cX12_number 59 = .ok (.getfield 29, 3) := by decide +kernel
theorem dX12_number_62 : decode cX12_number 62 = .ok (.istore_n 3, 1) := by decide +kernel
theorem dX12_number_63 : decode cX12_number 63 = .ok (.aload_n 0, 1) := by decide +kernel
theorem dX12_number_64 : decode cX12_number 64 = .ok (.getfield 36, 3) := by decide +kernel
theorem dX12_number_67 : decode cX12_number 67 = .ok (.ifCond .ne 7, 3) := by decide +kernel
theorem dX12_number_70 : decode cX12_number 70 = .ok (.aload_n 0, 1) := by decide +kernel
theorem dX12_number_71 : decode cX12_number 71 = .ok (.invokevirtual 249, 3) := by decide +kernel
theorem dX12_number_74 : decode cX12_number 74 = .ok (.iload_n 3, 1) := by decide +kernel
theorem dX12_number_75 : decode cX12_number 75 = .ok (.ireturn, 1) := by decide +kernel
theorem dX12_add_0 : decode cX12_add 0 = .ok (.aload_n 0, 1) := by decide +kernel
theorem dX12_add_1 : decode cX12_add 1 = .ok (.getfield 87, 3) := by decide +kernel
theorem dX12_add_4 : decode cX12_add 4 = .ok (.sipush 1600, 3) := by decide +kernel
theorem dX12_add_7 : decode cX12_add 7 = .ok (.aload_n 0, 1) := by decide +kernel
theorem dX12_add_8 : decode cX12_add 8 = .ok (.getfield 100, 3) := by decide +kernel
theorem dX12_add_11 : decode cX12_add 11 = .ok (.imul, 1) := by decide +kernel
theorem dX12_add_12 : decode cX12_add 12 = .ok (.aload_n 0, 1) := by decide +kernel
theorem dX12_add_13 : decode cX12_add 13 = .ok (.getfield 97, 3) := by decide +kernel
theorem dX12_add_16 : decode cX12_add 16 = .ok (.iadd, 1) := by decide +kernel
theorem dX12_add_17 : decode cX12_add 17 = .ok (.iload_n 1, 1) := by decide +kernel
theorem dX12_add_18 : decode cX12_add 18 = .ok (.iastore, 1) := by decide +kernel
theorem dX12_add_19 : decode cX12_add 19 = .ok (.aload_n 0, 1) := by decide +kernel
theorem dX12_add_20 : decode cX12_add 20 = .ok (.getfield 90, 3) := by decide +kernel
theorem dX12_add_23 : decode cX12_add 23 = .ok (.sipush 1600, 3) := by decide +kernel
theorem dX12_add_26 : decode cX12_add 26 = .ok (.aload_n 0, 1) := by decide +kernel
theorem dX12_add_27 : decode cX12_add 27 = .ok (.getfield 100, 3) := by decide +kernel
theorem dX12_add_30 : decode cX12_add 30 = .ok (.imul, 1) := by decide +kernel
theorem dX12_add_31 : decode cX12_add 31 = .ok (.aload_n 0, 1) := by decide +kernel
theorem dX12_add_32 : decode cX12_add 32 = .ok (.getfield 97, 3) := by decide +kernel
theorem dX12_add_35 : decode cX12_add 35 = .ok (.iadd, 1) := by decide +kernel
theorem dX12_add_36 : decode cX12_add 36 = .ok (.iload_n 2, 1) := by decide +kernel
theorem dX12_add_37 : decode cX12_add 37 = .ok (.iastore, 1) := by decide +kernel
theorem dX12_add_38 : decode cX12_add 38 = .ok (.aload_n 0, 1) := by decide +kernel
theorem dX12_add_39 : decode cX12_add 39 = .ok (.dup, 1) := by decide +kernel
theorem dX12_add_40 : decode cX12_add 40 = .ok (.getfield 97, 3) := by decide +kernel
theorem dX12_add_43 : decode cX12_add 43 = .ok (.iconst 1, 1) := by decide +kernel
theorem dX12_add_44 : decode cX12_add 44 = .ok (.iadd, 1) := by decide +kernel
theorem dX12_add_45 : decode cX12_add 45 = .ok (.putfield 97, 3) := by decide +kernel
theorem dX12_add_48 : decode cX12_add 48 = .ok (.return_, 1) := by decide +kernel
theorem dX12_rank_0 : decode cX12_rank 0 = .ok (.iload_n 0, 1) := by decide +kernel
theorem dX12_rank_1 : decode cX12_rank 1 = .ok (.bipush 42, 2) := by decide +kernel
theorem dX12_rank_3 : decode cX12_rank 3 = .ok (.if_icmp .ne 7, 3) := by decide +kernel
theorem dX12_rank_6 : decode cX12_rank 6 = .ok (.iconst 1, 1) := by decide +kernel
theorem dX12_rank_7 : decode cX12_rank 7 = .ok (.goto 63, 3) := by decide +kernel
theorem dX12_rank_10 : decode cX12_rank 10 = .ok (.iload_n 0, 1) := by decide +kernel
theorem dX12_rank_11 : decode cX12_rank 11 = .ok (.bipush 41, 2) := by decide +kernel
theorem dX12_rank_13 : decode cX12_rank 13 = .ok (.if_icmp .ne 7, 3) := by decide +kernel
theorem dX12_rank_16 : decode cX12_rank 16 = .ok (.iconst 2, 1) := by decide +kernel
theorem dX12_rank_17 : decode cX12_rank 17 = .ok (.goto 53, 3) := by decide +kernel
theorem dX12_rank_20 : decode cX12_rank 20 = .ok (.iload_n 0, 1) := by decide +kernel
theorem dX12_rank_21 : decode cX12_rank 21 = .ok (.bipush 43, 2) := by decide +kernel
theorem dX12_rank_23 : decode cX12_rank 23 = .ok (.if_icmp .ne 7, 3) := by decide +kernel
theorem dX12_rank_26 : decode cX12_rank 26 = .ok (.iconst 3, 1) := by decide +kernel
theorem dX12_rank_27 : decode cX12_rank 27 = .ok (.goto 43, 3) := by decide +kernel
theorem dX12_rank_30 : decode cX12_rank 30 = .ok (.iload_n 0, 1) := by decide +kernel
theorem dX12_rank_31 : decode cX12_rank 31 = .ok (.bipush 38, 2) := by decide +kernel
theorem dX12_rank_33 : decode cX12_rank 33 = .ok (.if_icmp .eq 15, 3) := by decide +kernel
theorem dX12_rank_36 : decode cX12_rank 36 = .ok (.iload_n 0, 1) := by decide +kernel
theorem dX12_rank_37 : decode cX12_rank 37 = .ok (.bipush 39, 2) := by decide +kernel
theorem dX12_rank_39 : decode cX12_rank 39 = .ok (.if_icmp .eq 9, 3) := by decide +kernel
theorem dX12_rank_42 : decode cX12_rank 42 = .ok (.iload_n 0, 1) := by decide +kernel
theorem dX12_rank_43 : decode cX12_rank 43 = .ok (.bipush 40, 2) := by decide +kernel
theorem dX12_rank_45 : decode cX12_rank 45 = .ok (.if_icmp .ne 7, 3) := by decide +kernel
theorem dX12_rank_48 : decode cX12_rank 48 = .ok (.iconst 4, 1) := by decide +kernel
theorem dX12_rank_49 : decode cX12_rank 49 = .ok (.goto 21, 3) := by decide +kernel
theorem dX12_rank_52 : decode cX12_rank 52 = .ok (.iload_n 0, 1) := by decide +kernel
theorem dX12_rank_53 : decode cX12_rank 53 = .ok (.bipush 31, 2) := by decide +kernel
theorem dX12_rank_55 : decode cX12_rank 55 = .ok (.if_icmp .eq 9, 3) := by decide +kernel
theorem dX12_rank_58 : decode cX12_rank 58 = .ok (.iload_n 0, 1) := by decide +kernel
theorem dX12_rank_59 : decode cX12_rank 59 = .ok (.bipush 32, 2) := by decide +kernel
theorem dX12_rank_61 : decode cX12_rank 61 = .ok (.if_icmp .ne 7, 3) := by decide +kernel
theorem dX12_rank_64 : decode cX12_rank 64 = .ok (.iconst 5, 1) := by decide +kernel
theorem dX12_rank_65 : decode cX12_rank 65 = .ok (.goto 5, 3) := by decide +kernel
theorem dX12_rank_68 : decode cX12_rank 68 = .ok (.bipush 6, 2) := by decide +kernel
theorem dX12_rank_70 : decode cX12_rank 70 = .ok (.ireturn, 1) := by decide +kernel
theorem dX12_joins_0 : decode cX12_joins 0 = .ok (.aload_n 0, 1) := by decide +kernel
theorem dX12_joins_1 : decode cX12_joins 1 = .ok (.getfield 131, 3) := by decide +kernel
theorem dX12_joins_4 : decode cX12_joins 4 = .ok (.aload_n 0, 1) := by decide +kernel
theorem dX12_joins_5 : decode cX12_joins 5 = .ok (.getfield 119, 3) := by decide +kernel
theorem dX12_joins_8 : decode cX12_joins 8 = .ok (.aload_n 0, 1) := by decide +kernel
theorem dX12_joins_9 : decode cX12_joins 9 = .ok (.getfield 122, 3) := by decide +kernel
theorem dX12_joins_12 : decode cX12_joins 12 = .ok (.iconst 1, 1) := by decide +kernel
theorem dX12_joins_13 : decode cX12_joins 13 = .ok (.isub, 1) := by decide +kernel
theorem dX12_joins_14 : decode cX12_joins 14 = .ok (.iaload, 1) := by decide +kernel
theorem dX12_joins_15 : decode cX12_joins 15 = .ok (.if_icmp .le 72, 3) := by decide +kernel
theorem dX12_joins_18 : decode cX12_joins 18 = .ok (.aload_n 0, 1) := by decide +kernel
theorem dX12_joins_19 : decode cX12_joins 19 = .ok (.getfield 128, 3) := by decide +kernel
theorem dX12_joins_22 : decode cX12_joins 22 = .ok (.aload_n 0, 1) := by decide +kernel
theorem dX12_joins_23 : decode cX12_joins 23 = .ok (.getfield 131, 3) := by decide +kernel
theorem dX12_joins_26 : decode cX12_joins 26 = .ok (.iconst 1, 1) := by decide +kernel
theorem dX12_joins_27 : decode cX12_joins 27 = .ok (.isub, 1) := by decide +kernel
theorem dX12_joins_28 : decode cX12_joins 28 = .ok (.iaload, 1) := by decide +kernel
theorem dX12_joins_29 : decode cX12_joins 29 = .ok (.invokestatic 314, 3) := by decide +kernel
theorem dX12_joins_32 : decode cX12_joins 32 = .ok (.iload_n 1, 1) := by decide +kernel
theorem dX12_joins_33 : decode cX12_joins 33 = .ok (.if_icmp .lt 54, 3) := by decide +kernel
theorem dX12_joins_36 : decode cX12_joins 36 = .ok (.aload_n 0, 1) := by decide +kernel
theorem dX12_joins_37 : decode cX12_joins 37 = .ok (.dup, 1) := by decide +kernel
theorem dX12_joins_38 : decode cX12_joins 38 = .ok (.getfield 131, 3) := by decide +kernel
theorem dX12_joins_41 : decode cX12_joins 41 = .ok (.iconst 1, 1) := by decide +kernel
theorem dX12_joins_42 : decode cX12_joins 42 = .ok (.isub, 1) := by decide +kernel
theorem dX12_joins_43 : decode cX12_joins 43 = .ok (.putfield 131, 3) := by decide +kernel
theorem dX12_joins_46 : decode cX12_joins 46 = .ok (.aload_n 0, 1) := by decide +kernel
theorem dX12_joins_47 : decode cX12_joins 47 = .ok (.aload_n 0, 1) := by decide +kernel
theorem dX12_joins_48 : decode cX12_joins 48 = .ok (.getfield 128, 3) := by decide +kernel
theorem dX12_joins_51 : decode cX12_joins 51 = .ok (.aload_n 0, 1) := by decide +kernel
theorem dX12_joins_52 : decode cX12_joins 52 = .ok (.getfield 131, 3) := by decide +kernel
theorem dX12_joins_55 : decode cX12_joins 55 = .ok (.iaload, 1) := by decide +kernel
theorem dX12_joins_56 : decode cX12_joins 56 = .ok (.iconst 0, 1) := by decide +kernel
theorem dX12_joins_57 : decode cX12_joins 57 = .ok (.invokevirtual 317, 3) := by decide +kernel
theorem dX12_joins_60 : decode cX12_joins 60 = .ok (.aload_n 0, 1) := by decide +kernel
theorem dX12_joins_61 : decode cX12_joins 61 = .ok (.getfield 128, 3) := by decide +kernel
theorem dX12_joins_64 : decode cX12_joins 64 = .ok (.aload_n 0, 1) := by decide +kernel
theorem dX12_joins_65 : decode cX12_joins 65 = .ok (.getfield 131, 3) := by decide +kernel
theorem dX12_joins_68 : decode cX12_joins 68 = .ok (.iaload, 1) := by decide +kernel
theorem dX12_joins_69 : decode cX12_joins 69 = .ok (.bipush 43, 2) := by decide +kernel
theorem dX12_joins_71 : decode cX12_joins 71 = .ok (.if_icmp .ne (-71), 3) := by decide +kernel
theorem dX12_joins_74 : decode cX12_joins 74 = .ok (.aload_n 0, 1) := by decide +kernel
theorem dX12_joins_75 : decode cX12_joins 75 = .ok (.dup, 1) := by decide +kernel
theorem dX12_joins_76 : decode cX12_joins 76 = .ok (.getfield 125, 3) := by decide +kernel
theorem dX12_joins_79 : decode cX12_joins 79 = .ok (.iconst 1, 1) := by decide +kernel
theorem dX12_joins_80 : decode cX12_joins 80 = .ok (.isub, 1) := by decide +kernel
theorem dX12_joins_81 : decode cX12_joins 81 = .ok (.putfield 125, 3) := by decide +kernel
theorem dX12_joins_84 : decode cX12_joins 84 = .ok (.goto (-84), 3) := by decide +kernel
theorem dX12_joins_87 : decode cX12_joins 87 = .ok (.return_, 1) := by decide +kernel
theorem dX12_holdsBack_0 : decode cX12_holdsBack 0 = .ok (.aload_n 0, 1) := by decide +kernel
theorem dX12_holdsBack_1 : decode cX12_holdsBack 1 = .ok (.getfield 128, 3) := by decide +kernel
theorem dX12_holdsBack_4 : decode cX12_holdsBack 4 = .ok (.aload_n 0, 1) := by decide +kernel
theorem dX12_holdsBack_5 : decode cX12_holdsBack 5 = .ok (.getfield 131, 3) := by decide +kernel
theorem dX12_holdsBack_8 : decode cX12_holdsBack 8 = .ok (.iload_n 1, 1) := by decide +kernel
theorem dX12_holdsBack_9 : decode cX12_holdsBack 9 = .ok (.iastore, 1) := by decide +kernel
theorem dX12_holdsBack_10 : decode cX12_holdsBack 10 = .ok (.aload_n 0, 1) := by decide +kernel
theorem dX12_holdsBack_11 : decode cX12_holdsBack 11 = .ok (.dup, 1) := by decide +kernel
theorem dX12_holdsBack_12 : decode cX12_holdsBack 12 = .ok (.getfield 131, 3) := by decide +kernel
theorem dX12_holdsBack_15 : decode cX12_holdsBack 15 = .ok (.iconst 1, 1) := by decide +kernel
theorem dX12_holdsBack_16 : decode cX12_holdsBack 16 = .ok (.iadd, 1) := by decide +kernel
theorem dX12_holdsBack_17 : decode cX12_holdsBack 17 = .ok (.putfield 131, 3) := by decide +kernel
theorem dX12_holdsBack_20 : decode cX12_holdsBack 20 = .ok (.return_, 1) := by decide +kernel
theorem dX12_pushes_0 : decode cX12_pushes 0 = .ok (.aload_n 0, 1) := by decide +kernel
theorem dX12_pushes_1 : decode cX12_pushes 1 = .ok (.getfield 106, 3) := by decide +kernel
theorem dX12_pushes_4 : decode cX12_pushes 4 = .ok (.aload_n 0, 1) := by decide +kernel
theorem dX12_pushes_5 : decode cX12_pushes 5 = .ok (.getfield 122, 3) := by decide +kernel
theorem dX12_pushes_8 : decode cX12_pushes 8 = .ok (.iload_n 1, 1) := by decide +kernel
theorem dX12_pushes_9 : decode cX12_pushes 9 = .ok (.iastore, 1) := by decide +kernel
theorem dX12_pushes_10 : decode cX12_pushes 10 = .ok (.aload_n 0, 1) := by decide +kernel
theorem dX12_pushes_11 : decode cX12_pushes 11 = .ok (.getfield 109, 3) := by decide +kernel
theorem dX12_pushes_14 : decode cX12_pushes 14 = .ok (.aload_n 0, 1) := by decide +kernel
theorem dX12_pushes_15 : decode cX12_pushes 15 = .ok (.getfield 122, 3) := by decide +kernel
theorem dX12_pushes_18 : decode cX12_pushes 18 = .ok (.iconst 0, 1) := by decide +kernel
theorem dX12_pushes_19 : decode cX12_pushes 19 = .ok (.iastore, 1) := by decide +kernel
theorem dX12_pushes_20 : decode cX12_pushes 20 = .ok (.aload_n 0, 1) := by decide +kernel
theorem dX12_pushes_21 : decode cX12_pushes 21 = .ok (.getfield 112, 3) := by decide +kernel
theorem dX12_pushes_24 : decode cX12_pushes 24 = .ok (.aload_n 0, 1) := by decide +kernel
theorem dX12_pushes_25 : decode cX12_pushes 25 = .ok (.getfield 122, 3) := by decide +kernel
theorem dX12_pushes_28 : decode cX12_pushes 28 = .ok (.iconst 1, 1) := by decide +kernel
theorem dX12_pushes_29 : decode cX12_pushes 29 = .ok (.bastore, 1) := by decide +kernel
theorem dX12_pushes_30 : decode cX12_pushes 30 = .ok (.aload_n 0, 1) := by decide +kernel
theorem dX12_pushes_31 : decode cX12_pushes 31 = .ok (.getfield 119, 3) := by decide +kernel
theorem dX12_pushes_34 : decode cX12_pushes 34 = .ok (.aload_n 0, 1) := by decide +kernel
theorem dX12_pushes_35 : decode cX12_pushes 35 = .ok (.getfield 122, 3) := by decide +kernel
theorem dX12_pushes_38 : decode cX12_pushes 38 = .ok (.aload_n 0, 1) := by decide +kernel
theorem dX12_pushes_39 : decode cX12_pushes 39 = .ok (.getfield 131, 3) := by decide +kernel
theorem dX12_pushes_42 : decode cX12_pushes 42 = .ok (.iastore, 1) := by decide +kernel
theorem dX12_pushes_43 : decode cX12_pushes 43 = .ok (.aload_n 0, 1) := by decide +kernel
theorem dX12_pushes_44 : decode cX12_pushes 44 = .ok (.dup, 1) := by decide +kernel
theorem dX12_pushes_45 : decode cX12_pushes 45 = .ok (.getfield 122, 3) := by decide +kernel
theorem dX12_pushes_48 : decode cX12_pushes 48 = .ok (.iconst 1, 1) := by decide +kernel
theorem dX12_pushes_49 : decode cX12_pushes 49 = .ok (.iadd, 1) := by decide +kernel
theorem dX12_pushes_50 : decode cX12_pushes 50 = .ok (.putfield 122, 3) := by decide +kernel
theorem dX12_pushes_53 : decode cX12_pushes 53 = .ok (.return_, 1) := by decide +kernel
theorem dX12_opens_0 : decode cX12_opens 0 = .ok (.aload_n 0, 1) := by decide +kernel
theorem dX12_opens_1 : decode cX12_opens 1 = .ok (.getfield 125, 3) := by decide +kernel
theorem dX12_opens_4 : decode cX12_opens 4 = .ok (.bipush 7, 2) := by decide +kernel
theorem dX12_opens_6 : decode cX12_opens 6 = .ok (.if_icmp .ne 12, 3) := by decide +kernel
theorem dX12_opens_9 : decode cX12_opens 9 = .ok (.aload_n 0, 1) := by decide +kernel
theorem dX12_opens_10 : decode cX12_opens 10 = .ok (.iconst 5, 1) := by decide +kernel
theorem dX12_opens_11 : decode cX12_opens 11 = .ok (.aload_n 0, 1) := by decide +kernel
theorem dX12_opens_12 : decode cX12_opens 12 = .ok (.getfield 23, 3) := by decide +kernel
theorem dX12_opens_15 : decode cX12_opens 15 = .ok (.invokevirtual 232, 3) := by decide +kernel
theorem dX12_opens_18 : decode cX12_opens 18 = .ok (.aload_n 0, 1) := by decide +kernel
theorem dX12_opens_19 : decode cX12_opens 19 = .ok (.getfield 36, 3) := by decide +kernel
theorem dX12_opens_22 : decode cX12_opens 22 = .ok (.ifCond .le 4, 3) := by decide +kernel
theorem dX12_opens_25 : decode cX12_opens 25 = .ok (.return_, 1) := by decide +kernel
theorem dX12_opens_26 : decode cX12_opens 26 = .ok (.aload_n 0, 1) := by decide +kernel
theorem dX12_opens_27 : decode cX12_opens 27 = .ok (.dup, 1) := by decide +kernel
theorem dX12_opens_28 : decode cX12_opens 28 = .ok (.getfield 125, 3) := by decide +kernel
theorem dX12_opens_31 : decode cX12_opens 31 = .ok (.iconst 1, 1) := by decide +kernel
theorem dX12_opens_32 : decode cX12_opens 32 = .ok (.iadd, 1) := by decide +kernel
theorem dX12_opens_33 : decode cX12_opens 33 = .ok (.putfield 125, 3) := by decide +kernel
theorem dX12_opens_36 : decode cX12_opens 36 = .ok (.aload_n 0, 1) := by decide +kernel
theorem dX12_opens_37 : decode cX12_opens 37 = .ok (.invokevirtual 249, 3) := by decide +kernel
theorem dX12_opens_40 : decode cX12_opens 40 = .ok (.aload_n 0, 1) := by decide +kernel
theorem dX12_opens_41 : decode cX12_opens 41 = .ok (.iload_n 1, 1) := by decide +kernel
theorem dX12_opens_42 : decode cX12_opens 42 = .ok (.invokevirtual 320, 3) := by decide +kernel
theorem dX12_opens_45 : decode cX12_opens 45 = .ok (.return_, 1) := by decide +kernel
theorem dX12_isTest_0 : decode cX12_isTest 0 = .ok (.iload_n 0, 1) := by decide +kernel
theorem dX12_isTest_1 : decode cX12_isTest 1 = .ok (.iconst 1, 1) := by decide +kernel
theorem dX12_isTest_2 : decode cX12_isTest 2 = .ok (.if_icmp .eq 14, 3) := by decide +kernel
theorem dX12_isTest_5 : decode cX12_isTest 5 = .ok (.iload_n 0, 1) := by decide +kernel
theorem dX12_isTest_6 : decode cX12_isTest 6 = .ok (.iconst 5, 1) := by decide +kernel
theorem dX12_isTest_7 : decode cX12_isTest 7 = .ok (.if_icmp .eq 9, 3) := by decide +kernel
theorem dX12_isTest_10 : decode cX12_isTest 10 = .ok (.iload_n 0, 1) := by decide +kernel
theorem dX12_isTest_11 : decode cX12_isTest 11 = .ok (.bipush 6, 2) := by decide +kernel
theorem dX12_isTest_13 : decode cX12_isTest 13 = .ok (.if_icmp .ne 7, 3) := by decide +kernel
theorem dX12_isTest_16 : decode cX12_isTest 16 = .ok (.iconst 1, 1) := by decide +kernel
theorem dX12_isTest_17 : decode cX12_isTest 17 = .ok (.goto 4, 3) := by decide +kernel
theorem dX12_isTest_20 : decode cX12_isTest 20 = .ok (.iconst 0, 1) := by decide +kernel
theorem dX12_isTest_21 : decode cX12_isTest 21 = .ok (.ireturn, 1) := by decide +kernel
theorem dX12_operand_0 : decode cX12_operand 0 = .ok (.aload_n 0, 1) := by decide +kernel
theorem dX12_operand_1 : decode cX12_operand 1 = .ok (.invokevirtual 243, 3) := by decide +kernel
theorem dX12_operand_4 : decode cX12_operand 4 = .ok (.aload_n 0, 1) := by decide +kernel
theorem dX12_operand_5 : decode cX12_operand 5 = .ok (.getfield 36, 3) := by decide +kernel
theorem dX12_operand_8 : decode cX12_operand 8 = .ok (.ifCond .le 5, 3) := by decide +kernel
theorem dX12_operand_11 : decode cX12_operand 11 = .ok (.iconst 1, 1) := by decide +kernel
theorem dX12_operand_12 : decode cX12_operand 12 = .ok (.ireturn, 1) := by decide +kernel
theorem dX12_operand_13 : decode cX12_operand 13 = .ok (.aload_n 0, 1) := by decide +kernel
theorem dX12_operand_14 : decode cX12_operand 14 = .ok (.getfield 122, 3) := by decide +kernel
theorem dX12_operand_17 : decode cX12_operand 17 = .ok (.iconst 1, 1) := by decide +kernel
theorem dX12_operand_18 : decode cX12_operand 18 = .ok (.isub, 1) := by decide +kernel
theorem dX12_operand_19 : decode cX12_operand 19 = .ok (.istore_n 1, 1) := by decide +kernel
theorem dX12_operand_20 : decode cX12_operand 20 = .ok (.aload_n 0, 1) := by decide +kernel
theorem dX12_operand_21 : decode cX12_operand 21 = .ok (.getfield 106, 3) := by decide +kernel
theorem dX12_operand_24 : decode cX12_operand 24 = .ok (.iload_n 1, 1) := by decide +kernel
theorem dX12_operand_25 : decode cX12_operand 25 = .ok (.iaload, 1) := by decide +kernel
theorem dX12_operand_26 : decode cX12_operand 26 = .ok (.invokestatic 323, 3) := by decide +kernel
theorem dX12_operand_29 : decode cX12_operand 29 = .ok (.ifCond .eq 16, 3) := by decide +kernel
theorem dX12_operand_32 : decode cX12_operand 32 = .ok (.aload_n 0, 1) := by decide +kernel
theorem dX12_operand_33 : decode cX12_operand 33 = .ok (.getfield 112, 3) := by decide +kernel
theorem dX12_operand_36 : decode cX12_operand 36 = .ok (.iload_n 1, 1) := by decide +kernel
theorem dX12_operand_37 : decode cX12_operand 37 = .ok (.baload, 1) := by decide +kernel
theorem dX12_operand_38 : decode cX12_operand 38 = .ok (.ifCond .eq 7, 3) := by decide +kernel
theorem dX12_operand_41 : decode cX12_operand 41 = .ok (.iconst 1, 1) := by decide +kernel
theorem dX12_operand_42 : decode cX12_operand 42 = .ok (.goto 4, 3) := by decide +kernel
theorem dX12_operand_45 : decode cX12_operand 45 = .ok (.iconst 0, 1) := by decide +kernel
theorem dX12_operand_46 : decode cX12_operand 46 = .ok (.istore_n 2, 1) := by decide +kernel
theorem dX12_operand_47 : decode cX12_operand 47 = .ok (.iload_n 2, 1) := by decide +kernel
theorem dX12_operand_48 : decode cX12_operand 48 = .ok (.ifCond .eq 62, 3) := by decide +kernel
theorem dX12_operand_51 : decode cX12_operand 51 = .ok (.aload_n 0, 1) := by decide +kernel
theorem dX12_operand_52 : decode cX12_operand 52 = .ok (.ldc2_w 302, 3) := by decide +kernel
theorem dX12_operand_55 : decode cX12_operand 55 = .ok (.invokevirtual 326, 3) := by decide +kernel
theorem dX12_operand_58 : decode cX12_operand 58 = .ok (.ifCond .eq 52, 3) := by decide +kernel
theorem dX12_operand_61 : decode cX12_operand 61 = .ok (.aload_n 0, 1) := by decide +kernel
theorem dX12_operand_62 : decode cX12_operand 62 = .ok (.getfield 125, 3) := by decide +kernel
theorem dX12_operand_65 : decode cX12_operand 65 = .ok (.bipush 7, 2) := by decide +kernel
theorem dX12_operand_67 : decode cX12_operand 67 = .ok (.if_icmp .ne 12, 3) := by decide +kernel
theorem dX12_operand_70 : decode cX12_operand 70 = .ok (.aload_n 0, 1) := by decide +kernel
theorem dX12_operand_71 : decode cX12_operand 71 = .ok (.iconst 5, 1) := by decide +kernel
theorem dX12_operand_72 : decode cX12_operand 72 = .ok (.aload_n 0, 1) := by decide +kernel
theorem dX12_operand_73 : decode cX12_operand 73 = .ok (.getfield 23, 3) := by decide +kernel
theorem dX12_operand_76 : decode cX12_operand 76 = .ok (.invokevirtual 232, 3) := by decide +kernel
theorem dX12_operand_79 : decode cX12_operand 79 = .ok (.aload_n 0, 1) := by decide +kernel
theorem dX12_operand_80 : decode cX12_operand 80 = .ok (.getfield 36, 3) := by decide +kernel
theorem dX12_operand_83 : decode cX12_operand 83 = .ok (.ifCond .le 5, 3) := by decide +kernel
theorem dX12_operand_86 : decode cX12_operand 86 = .ok (.iconst 1, 1) := by decide +kernel
theorem dX12_operand_87 : decode cX12_operand 87 = .ok (.ireturn, 1) := by decide +kernel
theorem dX12_operand_88 : decode cX12_operand 88 = .ok (.aload_n 0, 1) := by decide +kernel
theorem dX12_operand_89 : decode cX12_operand 89 = .ok (.dup, 1) := by decide +kernel
theorem dX12_operand_90 : decode cX12_operand 90 = .ok (.getfield 125, 3) := by decide +kernel
theorem dX12_operand_93 : decode cX12_operand 93 = .ok (.iconst 1, 1) := by decide +kernel
theorem dX12_operand_94 : decode cX12_operand 94 = .ok (.iadd, 1) := by decide +kernel
theorem dX12_operand_95 : decode cX12_operand 95 = .ok (.putfield 125, 3) := by decide +kernel
theorem dX12_operand_98 : decode cX12_operand 98 = .ok (.aload_n 0, 1) := by decide +kernel
theorem dX12_operand_99 : decode cX12_operand 99 = .ok (.bipush 43, 2) := by decide +kernel
theorem dX12_operand_101 : decode cX12_operand 101 = .ok (.invokevirtual 330, 3) := by decide +kernel
theorem dX12_operand_104 : decode cX12_operand 104 = .ok (.aload_n 0, 1) := by decide +kernel
theorem dX12_operand_105 : decode cX12_operand 105 = .ok (.invokevirtual 249, 3) := by decide +kernel
theorem dX12_operand_108 : decode cX12_operand 108 = .ok (.iconst 0, 1) := by decide +kernel
theorem dX12_operand_109 : decode cX12_operand 109 = .ok (.ireturn, 1) := by decide +kernel
theorem dX12_operand_110 : decode cX12_operand 110 = .ok (.aload_n 0, 1) := by decide +kernel
theorem dX12_operand_111 : decode cX12_operand 111 = .ok (.getfield 112, 3) := by decide +kernel
theorem dX12_operand_114 : decode cX12_operand 114 = .ok (.iload_n 1, 1) := by decide +kernel
theorem dX12_operand_115 : decode cX12_operand 115 = .ok (.iconst 0, 1) := by decide +kernel
theorem dX12_operand_116 : decode cX12_operand 116 = .ok (.bastore, 1) := by decide +kernel
theorem dX12_operand_117 : decode cX12_operand 117 = .ok (.iload_n 2, 1) := by decide +kernel
theorem dX12_operand_118 : decode cX12_operand 118 = .ok (.ifCond .eq 19, 3) := by decide +kernel
theorem dX12_operand_121 : decode cX12_operand 121 = .ok (.aload_n 0, 1) := by decide +kernel
theorem dX12_operand_122 : decode cX12_operand 122 = .ok (.bipush 91, 2) := by decide +kernel
theorem dX12_operand_124 : decode cX12_operand 124 = .ok (.invokevirtual 246, 3) := by decide +kernel
theorem dX12_operand_127 : decode cX12_operand 127 = .ok (.ifCond .eq 10, 3) := by decide +kernel
theorem dX12_operand_130 : decode cX12_operand 130 = .ok (.aload_n 0, 1) := by decide +kernel
theorem dX12_operand_131 : decode cX12_operand 131 = .ok (.iconst 5, 1) := by decide +kernel
theorem dX12_operand_132 : decode cX12_operand 132 = .ok (.invokevirtual 333, 3) := by decide +kernel
theorem dX12_operand_135 : decode cX12_operand 135 = .ok (.iconst 0, 1) := by decide +kernel
theorem dX12_operand_136 : decode cX12_operand 136 = .ok (.ireturn, 1) := by decide +kernel
theorem dX12_operand_137 : decode cX12_operand 137 = .ok (.iload_n 2, 1) := by decide +kernel
theorem dX12_operand_138 : decode cX12_operand 138 = .ok (.ifCond .eq 33, 3) := by decide +kernel
theorem dX12_operand_141 : decode cX12_operand 141 = .ok (.aload_n 0, 1) := by decide +kernel
theorem dX12_operand_142 : decode cX12_operand 142 = .ok (.ldc2_w 304, 3) := by decide +kernel
theorem dX12_operand_145 : decode cX12_operand 145 = .ok (.invokevirtual 326, 3) := by decide +kernel
theorem dX12_operand_148 : decode cX12_operand 148 = .ok (.ifCond .eq 23, 3) := by decide +kernel
theorem dX12_operand_151 : decode cX12_operand 151 = .ok (.aload_n 0, 1) := by decide +kernel
theorem dX12_operand_152 : decode cX12_operand 152 = .ok (.bipush 30, 2) := by decide +kernel
theorem dX12_operand_154 : decode cX12_operand 154 = .ok (.iconst 0, 1) := by decide +kernel
theorem dX12_operand_155 : decode cX12_operand 155 = .ok (.invokevirtual 317, 3) := by decide +kernel
theorem dX12_operand_158 : decode cX12_operand 158 = .ok (.aload_n 0, 1) := by decide +kernel
theorem dX12_operand_159 : decode cX12_operand 159 = .ok (.getfield 109, 3) := by decide +kernel
theorem dX12_operand_162 : decode cX12_operand 162 = .ok (.iload_n 1, 1) := by decide +kernel
theorem dX12_operand_163 : decode cX12_operand 163 = .ok (.iconst 2, 1) := by decide +kernel
theorem dX12_operand_164 : decode cX12_operand 164 = .ok (.iastore, 1) := by decide +kernel
theorem dX12_operand_165 : decode cX12_operand 165 = .ok (.aload_n 0, 1) := by decide +kernel
theorem dX12_operand_166 : decode cX12_operand 166 = .ok (.invokevirtual 249, 3) := by decide +kernel
theorem dX12_operand_169 : decode cX12_operand 169 = .ok (.iconst 1, 1) := by decide +kernel
theorem dX12_operand_170 : decode cX12_operand 170 = .ok (.ireturn, 1) := by decide +kernel
theorem dX12_operand_171 : decode cX12_operand 171 = .ok (.aload_n 0, 1) := by decide +kernel
theorem dX12_operand_172 : decode cX12_operand 172 = .ok (.bipush 40, 2) := by decide +kernel
theorem dX12_operand_174 : decode cX12_operand 174 = .ok (.invokevirtual 246, 3) := by decide +kernel
theorem dX12_operand_177 : decode cX12_operand 177 = .ok (.ifCond .eq 10, 3) := by decide +kernel
theorem dX12_operand_180 : decode cX12_operand 180 = .ok (.aload_n 0, 1) := by decide +kernel
theorem dX12_operand_181 : decode cX12_operand 181 = .ok (.iconst 2, 1) := by decide +kernel
theorem dX12_operand_182 : decode cX12_operand 182 = .ok (.invokevirtual 333, 3) := by decide +kernel
theorem dX12_operand_185 : decode cX12_operand 185 = .ok (.iconst 0, 1) := by decide +kernel
theorem dX12_operand_186 : decode cX12_operand 186 = .ok (.ireturn, 1) := by decide +kernel
theorem dX12_operand_187 : decode cX12_operand 187 = .ok (.aload_n 0, 1) := by decide +kernel
theorem dX12_operand_188 : decode cX12_operand 188 = .ok (.ldc2_w 306, 3) := by decide +kernel
theorem dX12_operand_191 : decode cX12_operand 191 = .ok (.invokevirtual 326, 3) := by decide +kernel
theorem dX12_operand_194 : decode cX12_operand 194 = .ok (.ifCond .ne 23, 3) := by decide +kernel
theorem dX12_operand_197 : decode cX12_operand 197 = .ok (.aload_n 0, 1) := by decide +kernel
theorem dX12_operand_198 : decode cX12_operand 198 = .ok (.ldc2_w 308, 3) := by decide +kernel
theorem dX12_operand_201 : decode cX12_operand 201 = .ok (.invokevirtual 326, 3) := by decide +kernel
theorem dX12_operand_204 : decode cX12_operand 204 = .ok (.ifCond .ne 13, 3) := by decide +kernel
theorem dX12_operand_207 : decode cX12_operand 207 = .ok (.aload_n 0, 1) := by decide +kernel
theorem dX12_operand_208 : decode cX12_operand 208 = .ok (.ldc2_w 296, 3) := by decide +kernel
theorem dX12_operand_211 : decode cX12_operand 211 = .ok (.invokevirtual 326, 3) := by decide +kernel
theorem dX12_operand_214 : decode cX12_operand 214 = .ok (.ifCond .eq 99, 3) := by decide +kernel
theorem dX12_operand_217 : decode cX12_operand 217 = .ok (.aload_n 0, 1) := by decide +kernel
theorem dX12_operand_218 : decode cX12_operand 218 = .ok (.ldc2_w 306, 3) := by decide +kernel
theorem dX12_operand_221 : decode cX12_operand 221 = .ok (.invokevirtual 326, 3) := by decide +kernel
theorem dX12_operand_224 : decode cX12_operand 224 = .ok (.ifCond .eq 8, 3) := by decide +kernel
theorem dX12_operand_227 : decode cX12_operand 227 = .ok (.bipush 36, 2) := by decide +kernel
theorem dX12_operand_229 : decode cX12_operand 229 = .ok (.goto 20, 3) := by decide +kernel
theorem dX12_operand_232 : decode cX12_operand 232 = .ok (.aload_n 0, 1) := by decide +kernel
theorem dX12_operand_233 : decode cX12_operand 233 = .ok (.ldc2_w 308, 3) := by decide +kernel
theorem dX12_operand_236 : decode cX12_operand 236 = .ok (.invokevirtual 326, 3) := by decide +kernel
theorem dX12_operand_239 : decode cX12_operand 239 = .ok (.ifCond .eq 8, 3) := by decide +kernel
theorem dX12_operand_242 : decode cX12_operand 242 = .ok (.bipush 37, 2) := by decide +kernel
theorem dX12_operand_244 : decode cX12_operand 244 = .ok (.goto 5, 3) := by decide +kernel
theorem dX12_operand_247 : decode cX12_operand 247 = .ok (.bipush 44, 2) := by decide +kernel
theorem dX12_operand_249 : decode cX12_operand 249 = .ok (.istore_n 3, 1) := by decide +kernel
theorem dX12_operand_250 : decode cX12_operand 250 = .ok (.aload_n 0, 1) := by decide +kernel
theorem dX12_operand_251 : decode cX12_operand 251 = .ok (.invokevirtual 249, 3) := by decide +kernel
theorem dX12_operand_254 : decode cX12_operand 254 = .ok (.aload_n 0, 1) := by decide +kernel
theorem dX12_operand_255 : decode cX12_operand 255 = .ok (.invokevirtual 243, 3) := by decide +kernel
theorem dX12_operand_258 : decode cX12_operand 258 = .ok (.aload_n 0, 1) := by decide +kernel
theorem dX12_operand_259 : decode cX12_operand 259 = .ok (.bipush 40, 2) := by decide +kernel
theorem dX12_operand_261 : decode cX12_operand 261 = .ok (.invokevirtual 246, 3) := by decide +kernel
theorem dX12_operand_264 : decode cX12_operand 264 = .ok (.ifCond .ne 12, 3) := by decide +kernel
theorem dX12_operand_267 : decode cX12_operand 267 = .ok (.aload_n 0, 1) := by decide +kernel
theorem dX12_operand_268 : decode cX12_operand 268 = .ok (.iconst 1, 1) := by decide +kernel
theorem dX12_operand_269 : decode cX12_operand 269 = .ok (.aload_n 0, 1) := by decide +kernel
theorem dX12_operand_270 : decode cX12_operand 270 = .ok (.getfield 23, 3) := by decide +kernel
theorem dX12_operand_273 : decode cX12_operand 273 = .ok (.invokevirtual 232, 3) := by decide +kernel
theorem dX12_operand_276 : decode cX12_operand 276 = .ok (.aload_n 0, 1) := by decide +kernel
theorem dX12_operand_277 : decode cX12_operand 277 = .ok (.iload_n 3, 1) := by decide +kernel
theorem dX12_operand_278 : decode cX12_operand 278 = .ok (.bipush 44, 2) := by decide +kernel
theorem dX12_operand_280 : decode cX12_operand 280 = .ok (.if_icmp .ne 8, 3) := by decide +kernel
theorem dX12_operand_283 : decode cX12_operand 283 = .ok (.bipush 6, 2) := by decide +kernel
theorem dX12_operand_285 : decode cX12_operand 285 = .ok (.goto 4, 3) := by decide +kernel
theorem dX12_operand_288 : decode cX12_operand 288 = .ok (.iconst 3, 1) := by decide +kernel
theorem dX12_operand_289 : decode cX12_operand 289 = .ok (.invokevirtual 333, 3) := by decide +kernel
theorem dX12_operand_292 : decode cX12_operand 292 = .ok (.aload_n 0, 1) := by decide +kernel
theorem dX12_operand_293 : decode cX12_operand 293 = .ok (.getfield 36, 3) := by decide +kernel
theorem dX12_operand_296 : decode cX12_operand 296 = .ok (.ifCond .ne 15, 3) := by decide +kernel
theorem dX12_operand_299 : decode cX12_operand 299 = .ok (.aload_n 0, 1) := by decide +kernel
theorem dX12_operand_300 : decode cX12_operand 300 = .ok (.getfield 116, 3) := by decide +kernel
theorem dX12_operand_303 : decode cX12_operand 303 = .ok (.aload_n 0, 1) := by decide +kernel
theorem dX12_operand_304 : decode cX12_operand 304 = .ok (.getfield 122, 3) := by decide +kernel
theorem dX12_operand_307 : decode cX12_operand 307 = .ok (.iconst 1, 1) := by decide +kernel
theorem dX12_operand_308 : decode cX12_operand 308 = .ok (.isub, 1) := by decide +kernel
theorem dX12_operand_309 : decode cX12_operand 309 = .ok (.iload_n 3, 1) := by decide +kernel
theorem dX12_operand_310 : decode cX12_operand 310 = .ok (.iastore, 1) := by decide +kernel
theorem dX12_operand_311 : decode cX12_operand 311 = .ok (.iconst 0, 1) := by decide +kernel
theorem dX12_operand_312 : decode cX12_operand 312 = .ok (.ireturn, 1) := by decide +kernel
theorem dX12_operand_313 : decode cX12_operand 313 = .ok (.aload_n 0, 1) := by decide +kernel
theorem dX12_operand_314 : decode cX12_operand 314 = .ok (.getfield 20, 3) := by decide +kernel
theorem dX12_operand_317 : decode cX12_operand 317 = .ok (.iconst 2, 1) := by decide +kernel
theorem dX12_operand_318 : decode cX12_operand 318 = .ok (.if_icmp .ne 7, 3) := by decide +kernel
theorem dX12_operand_321 : decode cX12_operand 321 = .ok (.iconst 0, 1) := by decide +kernel
theorem dX12_operand_322 : decode cX12_operand 322 = .ok (.goto 149, 3) := by decide +kernel
theorem dX12_operand_325 : decode cX12_operand 325 = .ok (.aload_n 0, 1) := by decide +kernel
theorem dX12_operand_326 : decode cX12_operand 326 = .ok (.ldc2_w 280, 3) := by decide +kernel
theorem dX12_operand_329 : decode cX12_operand 329 = .ok (.invokevirtual 326, 3) := by decide +kernel
theorem dX12_operand_332 : decode cX12_operand 332 = .ok (.ifCond .eq 7, 3) := by decide +kernel
theorem dX12_operand_335 : decode cX12_operand 335 = .ok (.iconst 1, 1) := by decide +kernel
theorem dX12_operand_336 : decode cX12_operand 336 = .ok (.goto 135, 3) := by decide +kernel
theorem dX12_operand_339 : decode cX12_operand 339 = .ok (.aload_n 0, 1) := by decide +kernel
theorem dX12_operand_340 : decode cX12_operand 340 = .ok (.ldc2_w 260, 3) := by decide +kernel
theorem dX12_operand_343 : decode cX12_operand 343 = .ok (.invokevirtual 326, 3) := by decide +kernel
theorem dX12_operand_346 : decode cX12_operand 346 = .ok (.ifCond .eq 7, 3) := by decide +kernel
theorem dX12_operand_349 : decode cX12_operand 349 = .ok (.iconst 2, 1) := by decide +kernel
theorem dX12_operand_350 : decode cX12_operand 350 = .ok (.goto 121, 3) := by decide +kernel
theorem dX12_operand_353 : decode cX12_operand 353 = .ok (.aload_n 0, 1) := by decide +kernel
theorem dX12_operand_354 : decode cX12_operand 354 = .ok (.ldc2_w 282, 3) := by decide +kernel
theorem dX12_operand_357 : decode cX12_operand 357 = .ok (.invokevirtual 326, 3) := by decide +kernel
theorem dX12_operand_360 : decode cX12_operand 360 = .ok (.ifCond .eq 7, 3) := by decide +kernel
theorem dX12_operand_363 : decode cX12_operand 363 = .ok (.iconst 3, 1) := by decide +kernel
theorem dX12_operand_364 : decode cX12_operand 364 = .ok (.goto 107, 3) := by decide +kernel
theorem dX12_operand_367 : decode cX12_operand 367 = .ok (.aload_n 0, 1) := by decide +kernel
theorem dX12_operand_368 : decode cX12_operand 368 = .ok (.ldc2_w 284, 3) := by decide +kernel
theorem dX12_operand_371 : decode cX12_operand 371 = .ok (.invokevirtual 326, 3) := by decide +kernel
theorem dX12_operand_374 : decode cX12_operand 374 = .ok (.ifCond .eq 7, 3) := by decide +kernel
theorem dX12_operand_377 : decode cX12_operand 377 = .ok (.iconst 4, 1) := by decide +kernel
theorem dX12_operand_378 : decode cX12_operand 378 = .ok (.goto 93, 3) := by decide +kernel
theorem dX12_operand_381 : decode cX12_operand 381 = .ok (.aload_n 0, 1) := by decide +kernel
theorem dX12_operand_382 : decode cX12_operand 382 = .ok (.ldc2_w 262, 3) := by decide +kernel
theorem dX12_operand_385 : decode cX12_operand 385 = .ok (.invokevirtual 326, 3) := by decide +kernel
theorem dX12_operand_388 : decode cX12_operand 388 = .ok (.ifCond .eq 7, 3) := by decide +kernel
theorem dX12_operand_391 : decode cX12_operand 391 = .ok (.iconst 5, 1) := by decide +kernel
theorem dX12_operand_392 : decode cX12_operand 392 = .ok (.goto 79, 3) := by decide +kernel
theorem dX12_operand_395 : decode cX12_operand 395 = .ok (.aload_n 0, 1) := by decide +kernel
theorem dX12_operand_396 : decode cX12_operand 396 = .ok (.ldc2_w 286, 3) := by decide +kernel
theorem dX12_operand_399 : decode cX12_operand 399 = .ok (.invokevirtual 326, 3) := by decide +kernel
theorem dX12_operand_402 : decode cX12_operand 402 = .ok (.ifCond .eq 8, 3) := by decide +kernel
theorem dX12_operand_405 : decode cX12_operand 405 = .ok (.bipush 6, 2) := by decide +kernel
theorem dX12_operand_407 : decode cX12_operand 407 = .ok (.goto 64, 3) := by decide +kernel
theorem dX12_operand_410 : decode cX12_operand 410 = .ok (.aload_n 0, 1) := by decide +kernel
theorem dX12_operand_411 : decode cX12_operand 411 = .ok (.ldc2_w 288, 3) := by decide +kernel
theorem dX12_operand_414 : decode cX12_operand 414 = .ok (.invokevirtual 326, 3) := by decide +kernel
theorem dX12_operand_417 : decode cX12_operand 417 = .ok (.ifCond .eq 8, 3) := by decide +kernel
theorem dX12_operand_420 : decode cX12_operand 420 = .ok (.bipush 7, 2) := by decide +kernel
theorem dX12_operand_422 : decode cX12_operand 422 = .ok (.goto 49, 3) := by decide +kernel
theorem dX12_operand_425 : decode cX12_operand 425 = .ok (.aload_n 0, 1) := by decide +kernel
theorem dX12_operand_426 : decode cX12_operand 426 = .ok (.ldc2_w 290, 3) := by decide +kernel
theorem dX12_operand_429 : decode cX12_operand 429 = .ok (.invokevirtual 326, 3) := by decide +kernel
theorem dX12_operand_432 : decode cX12_operand 432 = .ok (.ifCond .eq 8, 3) := by decide +kernel
theorem dX12_operand_435 : decode cX12_operand 435 = .ok (.bipush 8, 2) := by decide +kernel
theorem dX12_operand_437 : decode cX12_operand 437 = .ok (.goto 34, 3) := by decide +kernel
theorem dX12_operand_440 : decode cX12_operand 440 = .ok (.aload_n 0, 1) := by decide +kernel
theorem dX12_operand_441 : decode cX12_operand 441 = .ok (.ldc2_w 292, 3) := by decide +kernel
theorem dX12_operand_444 : decode cX12_operand 444 = .ok (.invokevirtual 326, 3) := by decide +kernel
theorem dX12_operand_447 : decode cX12_operand 447 = .ok (.ifCond .eq 8, 3) := by decide +kernel
theorem dX12_operand_450 : decode cX12_operand 450 = .ok (.bipush 9, 2) := by decide +kernel
theorem dX12_operand_452 : decode cX12_operand 452 = .ok (.goto 19, 3) := by decide +kernel
theorem dX12_operand_455 : decode cX12_operand 455 = .ok (.aload_n 0, 1) := by decide +kernel
theorem dX12_operand_456 : decode cX12_operand 456 = .ok (.ldc2_w 294, 3) := by decide +kernel
theorem dX12_operand_459 : decode cX12_operand 459 = .ok (.invokevirtual 326, 3) := by decide +kernel
theorem dX12_operand_462 : decode cX12_operand 462 = .ok (.ifCond .eq 8, 3) := by decide +kernel
theorem dX12_operand_465 : decode cX12_operand 465 = .ok (.bipush 10, 2) := by decide +kernel
theorem dX12_operand_467 : decode cX12_operand 467 = .ok (.goto 4, 3) := by decide +kernel
theorem dX12_operand_470 : decode cX12_operand 470 = .ok (.iconst (-1), 1) := by decide +kernel
theorem dX12_operand_471 : decode cX12_operand 471 = .ok (.istore_n 3, 1) := by decide +kernel
theorem dX12_operand_472 : decode cX12_operand 472 = .ok (.iload_n 3, 1) := by decide +kernel
theorem dX12_operand_473 : decode cX12_operand 473 = .ok (.ifCond .le 19, 3) := by decide +kernel
theorem dX12_operand_476 : decode cX12_operand 476 = .ok (.aload_n 0, 1) := by decide +kernel
theorem dX12_operand_477 : decode cX12_operand 477 = .ok (.getfield 103, 3) := by decide +kernel
theorem dX12_operand_480 : decode cX12_operand 480 = .ok (.invokestatic 336, 3) := by decide +kernel
theorem dX12_operand_483 : decode cX12_operand 483 = .ok (.iload_n 3, 1) := by decide +kernel
theorem dX12_operand_484 : decode cX12_operand 484 = .ok (.invokestatic 339, 3) := by decide +kernel
theorem dX12_operand_487 : decode cX12_operand 487 = .ok (.ifCond .ne 5, 3) := by decide +kernel
theorem dX12_operand_490 : decode cX12_operand 490 = .ok (.iconst (-1), 1) := by decide +kernel
theorem dX12_operand_491 : decode cX12_operand 491 = .ok (.istore_n 3, 1) := by decide +kernel
theorem dX12_operand_492 : decode cX12_operand 492 = .ok (.iload_n 3, 1) := by decide +kernel
theorem dX12_operand_493 : decode cX12_operand 493 = .ok (.iconst (-1), 1) := by decide +kernel
theorem dX12_operand_494 : decode cX12_operand 494 = .ok (.if_icmp .ne 12, 3) := by decide +kernel
theorem dX12_operand_497 : decode cX12_operand 497 = .ok (.aload_n 0, 1) := by decide +kernel
theorem dX12_operand_498 : decode cX12_operand 498 = .ok (.iconst 1, 1) := by decide +kernel
theorem dX12_operand_499 : decode cX12_operand 499 = .ok (.aload_n 0, 1) := by decide +kernel
theorem dX12_operand_500 : decode cX12_operand 500 = .ok (.getfield 23, 3) := by decide +kernel
theorem dX12_operand_503 : decode cX12_operand 503 = .ok (.invokevirtual 232, 3) := by decide +kernel
theorem dX12_operand_506 : decode cX12_operand 506 = .ok (.aload_n 0, 1) := by decide +kernel
theorem dX12_operand_507 : decode cX12_operand 507 = .ok (.getfield 36, 3) := by decide +kernel
theorem dX12_operand_510 : decode cX12_operand 510 = .ok (.ifCond .le 5, 3) := by decide +kernel
theorem dX12_operand_513 : decode cX12_operand 513 = .ok (.iconst 1, 1) := by decide +kernel
theorem dX12_operand_514 : decode cX12_operand 514 = .ok (.ireturn, 1) := by decide +kernel
theorem dX12_operand_515 : decode cX12_operand 515 = .ok (.aload_n 0, 1) := by decide +kernel
theorem dX12_operand_516 : decode cX12_operand 516 = .ok (.iload_n 3, 1) := by decide +kernel
theorem dX12_operand_517 : decode cX12_operand 517 = .ok (.aload_n 0, 1) := by decide +kernel
theorem dX12_operand_518 : decode cX12_operand 518 = .ok (.getfield 29, 3) := by decide +kernel
theorem dX12_operand_521 : decode cX12_operand 521 = .ok (.invokevirtual 317, 3) := by decide +kernel
theorem dX12_operand_524 : decode cX12_operand 524 = .ok (.aload_n 0, 1) := by decide +kernel
theorem dX12_operand_525 : decode cX12_operand 525 = .ok (.invokevirtual 249, 3) := by decide +kernel
theorem dX12_operand_528 : decode cX12_operand 528 = .ok (.iconst 1, 1) := by decide +kernel
theorem dX12_operand_529 : decode cX12_operand 529 = .ok (.ireturn, 1) := by decide +kernel
theorem dX12_goesOn_0 : decode cX12_goesOn 0 = .ok (.aload_n 0, 1) := by decide +kernel
theorem dX12_goesOn_1 : decode cX12_goesOn 1 = .ok (.invokevirtual 243, 3) := by decide +kernel
theorem dX12_goesOn_4 : decode cX12_goesOn 4 = .ok (.aload_n 0, 1) := by decide +kernel
theorem dX12_goesOn_5 : decode cX12_goesOn 5 = .ok (.getfield 36, 3) := by decide +kernel
theorem dX12_goesOn_8 : decode cX12_goesOn 8 = .ok (.ifCond .le 5, 3) := by decide +kernel
theorem dX12_goesOn_11 : decode cX12_goesOn 11 = .ok (.iconst 0, 1) := by decide +kernel
theorem dX12_goesOn_12 : decode cX12_goesOn 12 = .ok (.ireturn, 1) := by decide +kernel
theorem dX12_goesOn_13 : decode cX12_goesOn 13 = .ok (.aload_n 0, 1) := by decide +kernel
theorem dX12_goesOn_14 : decode cX12_goesOn 14 = .ok (.getfield 122, 3) := by decide +kernel
theorem dX12_goesOn_17 : decode cX12_goesOn 17 = .ok (.iconst 1, 1) := by decide +kernel
theorem dX12_goesOn_18 : decode cX12_goesOn 18 = .ok (.isub, 1) := by decide +kernel
theorem dX12_goesOn_19 : decode cX12_goesOn 19 = .ok (.istore_n 1, 1) := by decide +kernel
theorem dX12_goesOn_20 : decode cX12_goesOn 20 = .ok (.aload_n 0, 1) := by decide +kernel
theorem dX12_goesOn_21 : decode cX12_goesOn 21 = .ok (.getfield 106, 3) := by decide +kernel
theorem dX12_goesOn_24 : decode cX12_goesOn 24 = .ok (.iload_n 1, 1) := by decide +kernel
theorem dX12_goesOn_25 : decode cX12_goesOn 25 = .ok (.iaload, 1) := by decide +kernel
theorem dX12_goesOn_26 : decode cX12_goesOn 26 = .ok (.istore_n 2, 1) := by decide +kernel
theorem dX12_goesOn_27 : decode cX12_goesOn 27 = .ok (.iload_n 2, 1) := by decide +kernel
theorem dX12_goesOn_28 : decode cX12_goesOn 28 = .ok (.invokestatic 323, 3) := by decide +kernel
theorem dX12_goesOn_31 : decode cX12_goesOn 31 = .ok (.istore_n 3, 1) := by decide +kernel
theorem dX12_goesOn_32 : decode cX12_goesOn 32 = .ok (.aload_n 0, 1) := by decide +kernel
theorem dX12_goesOn_33 : decode cX12_goesOn 33 = .ok (.getfield 109, 3) := by decide +kernel
theorem dX12_goesOn_36 : decode cX12_goesOn 36 = .ok (.iload_n 1, 1) := by decide +kernel
theorem dX12_goesOn_37 : decode cX12_goesOn 37 = .ok (.iaload, 1) := by decide +kernel
theorem dX12_goesOn_38 : decode cX12_goesOn 38 = .ok (.iconst 2, 1) := by decide +kernel
theorem dX12_goesOn_39 : decode cX12_goesOn 39 = .ok (.if_icmp .ge 149, 3) := by decide +kernel
theorem dX12_goesOn_42 : decode cX12_goesOn 42 = .ok (.aload_n 0, 1) := by decide +kernel
theorem dX12_goesOn_43 : decode cX12_goesOn 43 = .ok (.bipush 43, 2) := by decide +kernel
theorem dX12_goesOn_45 : decode cX12_goesOn 45 = .ok (.invokevirtual 246, 3) := by decide +kernel
theorem dX12_goesOn_48 : decode cX12_goesOn 48 = .ok (.ifCond .ne 39, 3) := by decide +kernel
theorem dX12_goesOn_51 : decode cX12_goesOn 51 = .ok (.aload_n 0, 1) := by decide +kernel
theorem dX12_goesOn_52 : decode cX12_goesOn 52 = .ok (.bipush 45, 2) := by decide +kernel
theorem dX12_goesOn_54 : decode cX12_goesOn 54 = .ok (.invokevirtual 246, 3) := by decide +kernel
theorem dX12_goesOn_57 : decode cX12_goesOn 57 = .ok (.ifCond .ne 30, 3) := by decide +kernel
theorem dX12_goesOn_60 : decode cX12_goesOn 60 = .ok (.aload_n 0, 1) := by decide +kernel
theorem dX12_goesOn_61 : decode cX12_goesOn 61 = .ok (.bipush 42, 2) := by decide +kernel
theorem dX12_goesOn_63 : decode cX12_goesOn 63 = .ok (.invokevirtual 246, 3) := by decide +kernel
theorem dX12_goesOn_66 : decode cX12_goesOn 66 = .ok (.ifCond .ne 21, 3) := by decide +kernel
theorem dX12_goesOn_69 : decode cX12_goesOn 69 = .ok (.aload_n 0, 1) := by decide +kernel
theorem dX12_goesOn_70 : decode cX12_goesOn 70 = .ok (.bipush 47, 2) := by decide +kernel
theorem dX12_goesOn_72 : decode cX12_goesOn 72 = .ok (.invokevirtual 246, 3) := by decide +kernel
theorem dX12_goesOn_75 : decode cX12_goesOn 75 = .ok (.ifCond .ne 12, 3) := by decide +kernel
theorem dX12_goesOn_78 : decode cX12_goesOn 78 = .ok (.aload_n 0, 1) := by decide +kernel
theorem dX12_goesOn_79 : decode cX12_goesOn 79 = .ok (.bipush 37, 2) := by decide +kernel
theorem dX12_goesOn_81 : decode cX12_goesOn 81 = .ok (.invokevirtual 246, 3) := by decide +kernel
theorem dX12_goesOn_84 : decode cX12_goesOn 84 = .ok (.ifCond .eq 104, 3) := by decide +kernel
theorem dX12_goesOn_87 : decode cX12_goesOn 87 = .ok (.aload_n 0, 1) := by decide +kernel
theorem dX12_goesOn_88 : decode cX12_goesOn 88 = .ok (.aload_n 0, 1) := by decide +kernel
theorem dX12_goesOn_89 : decode cX12_goesOn 89 = .ok (.bipush 43, 2) := by decide +kernel
theorem dX12_goesOn_91 : decode cX12_goesOn 91 = .ok (.invokevirtual 246, 3) := by decide +kernel
theorem dX12_goesOn_94 : decode cX12_goesOn 94 = .ok (.ifCond .ne 12, 3) := by decide +kernel
theorem dX12_goesOn_97 : decode cX12_goesOn 97 = .ok (.aload_n 0, 1) := by decide +kernel
theorem dX12_goesOn_98 : decode cX12_goesOn 98 = .ok (.bipush 45, 2) := by decide +kernel
theorem dX12_goesOn_100 : decode cX12_goesOn 100 = .ok (.invokevirtual 246, 3) := by decide +kernel
theorem dX12_goesOn_103 : decode cX12_goesOn 103 = .ok (.ifCond .eq 7, 3) := by decide +kernel
theorem dX12_goesOn_106 : decode cX12_goesOn 106 = .ok (.iconst 5, 1) := by decide +kernel
theorem dX12_goesOn_107 : decode cX12_goesOn 107 = .ok (.goto 5, 3) := by decide +kernel
theorem dX12_goesOn_110 : decode cX12_goesOn 110 = .ok (.bipush 6, 2) := by decide +kernel
theorem dX12_goesOn_112 : decode cX12_goesOn 112 = .ok (.invokevirtual 343, 3) := by decide +kernel
theorem dX12_goesOn_115 : decode cX12_goesOn 115 = .ok (.aload_n 0, 1) := by decide +kernel
theorem dX12_goesOn_116 : decode cX12_goesOn 116 = .ok (.aload_n 0, 1) := by decide +kernel
theorem dX12_goesOn_117 : decode cX12_goesOn 117 = .ok (.bipush 43, 2) := by decide +kernel
theorem dX12_goesOn_119 : decode cX12_goesOn 119 = .ok (.invokevirtual 246, 3) := by decide +kernel
theorem dX12_goesOn_122 : decode cX12_goesOn 122 = .ok (.ifCond .eq 8, 3) := by decide +kernel
theorem dX12_goesOn_125 : decode cX12_goesOn 125 = .ok (.bipush 31, 2) := by decide +kernel
theorem dX12_goesOn_127 : decode cX12_goesOn 127 = .ok (.goto 47, 3) := by decide +kernel
theorem dX12_goesOn_130 : decode cX12_goesOn 130 = .ok (.aload_n 0, 1) := by decide +kernel
theorem dX12_goesOn_131 : decode cX12_goesOn 131 = .ok (.bipush 45, 2) := by decide +kernel
theorem dX12_goesOn_133 : decode cX12_goesOn 133 = .ok (.invokevirtual 246, 3) := by decide +kernel
theorem dX12_goesOn_136 : decode cX12_goesOn 136 = .ok (.ifCond .eq 8, 3) := by decide +kernel
theorem dX12_goesOn_139 : decode cX12_goesOn 139 = .ok (.bipush 32, 2) := by decide +kernel
theorem dX12_goesOn_141 : decode cX12_goesOn 141 = .ok (.goto 33, 3) := by decide +kernel
theorem dX12_goesOn_144 : decode cX12_goesOn 144 = .ok (.aload_n 0, 1) := by decide +kernel
theorem dX12_goesOn_145 : decode cX12_goesOn 145 = .ok (.bipush 42, 2) := by decide +kernel
theorem dX12_goesOn_147 : decode cX12_goesOn 147 = .ok (.invokevirtual 246, 3) := by decide +kernel
theorem dX12_goesOn_150 : decode cX12_goesOn 150 = .ok (.ifCond .eq 8, 3) := by decide +kernel
theorem dX12_goesOn_153 : decode cX12_goesOn 153 = .ok (.bipush 33, 2) := by decide +kernel
theorem dX12_goesOn_155 : decode cX12_goesOn 155 = .ok (.goto 19, 3) := by decide +kernel
theorem dX12_goesOn_158 : decode cX12_goesOn 158 = .ok (.aload_n 0, 1) := by decide +kernel
theorem dX12_goesOn_159 : decode cX12_goesOn 159 = .ok (.bipush 47, 2) := by decide +kernel
theorem dX12_goesOn_161 : decode cX12_goesOn 161 = .ok (.invokevirtual 246, 3) := by decide +kernel
theorem dX12_goesOn_164 : decode cX12_goesOn 164 = .ok (.ifCond .eq 8, 3) := by decide +kernel
theorem dX12_goesOn_167 : decode cX12_goesOn 167 = .ok (.bipush 34, 2) := by decide +kernel
theorem dX12_goesOn_169 : decode cX12_goesOn 169 = .ok (.goto 5, 3) := by decide +kernel
theorem dX12_goesOn_172 : decode cX12_goesOn 172 = .ok (.bipush 35, 2) := by decide +kernel
theorem dX12_goesOn_174 : decode cX12_goesOn 174 = .ok (.invokevirtual 330, 3) := by decide +kernel
theorem dX12_goesOn_177 : decode cX12_goesOn 177 = .ok (.aload_n 0, 1) := by decide +kernel
theorem dX12_goesOn_178 : decode cX12_goesOn 178 = .ok (.invokevirtual 249, 3) := by decide +kernel
theorem dX12_goesOn_181 : decode cX12_goesOn 181 = .ok (.aload_n 0, 1) := by decide +kernel
theorem dX12_goesOn_182 : decode cX12_goesOn 182 = .ok (.iconst 0, 1) := by decide +kernel
theorem dX12_goesOn_183 : decode cX12_goesOn 183 = .ok (.putfield 134, 3) := by decide +kernel
theorem dX12_goesOn_186 : decode cX12_goesOn 186 = .ok (.iconst 1, 1) := by decide +kernel
theorem dX12_goesOn_187 : decode cX12_goesOn 187 = .ok (.ireturn, 1) := by decide +kernel
theorem dX12_goesOn_188 : decode cX12_goesOn 188 = .ok (.iload_n 3, 1) := by decide +kernel
theorem dX12_goesOn_189 : decode cX12_goesOn 189 = .ok (.ifCond .eq 96, 3) := by decide +kernel
theorem dX12_goesOn_192 : decode cX12_goesOn 192 = .ok (.aload_n 0, 1) := by decide +kernel
theorem dX12_goesOn_193 : decode cX12_goesOn 193 = .ok (.getfield 109, 3) := by decide +kernel
theorem dX12_goesOn_196 : decode cX12_goesOn 196 = .ok (.iload_n 1, 1) := by decide +kernel
theorem dX12_goesOn_197 : decode cX12_goesOn 197 = .ok (.iaload, 1) := by decide +kernel
theorem dX12_goesOn_198 : decode cX12_goesOn 198 = .ok (.ifCond .ne 87, 3) := by decide +kernel
theorem dX12_goesOn_201 : decode cX12_goesOn 201 = .ok (.aload_n 0, 1) := by decide +kernel
theorem dX12_goesOn_202 : decode cX12_goesOn 202 = .ok (.bipush 60, 2) := by decide +kernel
theorem dX12_goesOn_204 : decode cX12_goesOn 204 = .ok (.invokevirtual 246, 3) := by decide +kernel
theorem dX12_goesOn_207 : decode cX12_goesOn 207 = .ok (.ifCond .ne 21, 3) := by decide +kernel
theorem dX12_goesOn_210 : decode cX12_goesOn 210 = .ok (.aload_n 0, 1) := by decide +kernel
theorem dX12_goesOn_211 : decode cX12_goesOn 211 = .ok (.bipush 62, 2) := by decide +kernel
theorem dX12_goesOn_213 : decode cX12_goesOn 213 = .ok (.invokevirtual 246, 3) := by decide +kernel
theorem dX12_goesOn_216 : decode cX12_goesOn 216 = .ok (.ifCond .ne 12, 3) := by decide +kernel
theorem dX12_goesOn_219 : decode cX12_goesOn 219 = .ok (.aload_n 0, 1) := by decide +kernel
theorem dX12_goesOn_220 : decode cX12_goesOn 220 = .ok (.bipush 61, 2) := by decide +kernel
theorem dX12_goesOn_222 : decode cX12_goesOn 222 = .ok (.invokevirtual 246, 3) := by decide +kernel
theorem dX12_goesOn_225 : decode cX12_goesOn 225 = .ok (.ifCond .eq 60, 3) := by decide +kernel
theorem dX12_goesOn_228 : decode cX12_goesOn 228 = .ok (.aload_n 0, 1) := by decide +kernel
theorem dX12_goesOn_229 : decode cX12_goesOn 229 = .ok (.iconst 5, 1) := by decide +kernel
theorem dX12_goesOn_230 : decode cX12_goesOn 230 = .ok (.invokevirtual 343, 3) := by decide +kernel
theorem dX12_goesOn_233 : decode cX12_goesOn 233 = .ok (.aload_n 0, 1) := by decide +kernel
theorem dX12_goesOn_234 : decode cX12_goesOn 234 = .ok (.aload_n 0, 1) := by decide +kernel
theorem dX12_goesOn_235 : decode cX12_goesOn 235 = .ok (.bipush 60, 2) := by decide +kernel
theorem dX12_goesOn_237 : decode cX12_goesOn 237 = .ok (.invokevirtual 246, 3) := by decide +kernel
theorem dX12_goesOn_240 : decode cX12_goesOn 240 = .ok (.ifCond .eq 8, 3) := by decide +kernel
theorem dX12_goesOn_243 : decode cX12_goesOn 243 = .ok (.bipush 38, 2) := by decide +kernel
theorem dX12_goesOn_245 : decode cX12_goesOn 245 = .ok (.goto 19, 3) := by decide +kernel
theorem dX12_goesOn_248 : decode cX12_goesOn 248 = .ok (.aload_n 0, 1) := by decide +kernel
theorem dX12_goesOn_249 : decode cX12_goesOn 249 = .ok (.bipush 62, 2) := by decide +kernel
theorem dX12_goesOn_251 : decode cX12_goesOn 251 = .ok (.invokevirtual 246, 3) := by decide +kernel
theorem dX12_goesOn_254 : decode cX12_goesOn 254 = .ok (.ifCond .eq 8, 3) := by decide +kernel
theorem dX12_goesOn_257 : decode cX12_goesOn 257 = .ok (.bipush 39, 2) := by decide +kernel
theorem dX12_goesOn_259 : decode cX12_goesOn 259 = .ok (.goto 5, 3) := by decide +kernel
theorem dX12_goesOn_262 : decode cX12_goesOn 262 = .ok (.bipush 40, 2) := by decide +kernel
theorem dX12_goesOn_264 : decode cX12_goesOn 264 = .ok (.invokevirtual 330, 3) := by decide +kernel
theorem dX12_goesOn_267 : decode cX12_goesOn 267 = .ok (.aload_n 0, 1) := by decide +kernel
theorem dX12_goesOn_268 : decode cX12_goesOn 268 = .ok (.getfield 109, 3) := by decide +kernel
theorem dX12_goesOn_271 : decode cX12_goesOn 271 = .ok (.iload_n 1, 1) := by decide +kernel
theorem dX12_goesOn_272 : decode cX12_goesOn 272 = .ok (.iconst 1, 1) := by decide +kernel
theorem dX12_goesOn_273 : decode cX12_goesOn 273 = .ok (.iastore, 1) := by decide +kernel
theorem dX12_goesOn_274 : decode cX12_goesOn 274 = .ok (.aload_n 0, 1) := by decide +kernel
theorem dX12_goesOn_275 : decode cX12_goesOn 275 = .ok (.invokevirtual 249, 3) := by decide +kernel
theorem dX12_goesOn_278 : decode cX12_goesOn 278 = .ok (.aload_n 0, 1) := by decide +kernel
theorem dX12_goesOn_279 : decode cX12_goesOn 279 = .ok (.iconst 0, 1) := by decide +kernel
theorem dX12_goesOn_280 : decode cX12_goesOn 280 = .ok (.putfield 134, 3) := by decide +kernel
theorem dX12_goesOn_283 : decode cX12_goesOn 283 = .ok (.iconst 1, 1) := by decide +kernel
theorem dX12_goesOn_284 : decode cX12_goesOn 284 = .ok (.ireturn, 1) := by decide +kernel
theorem dX12_goesOn_285 : decode cX12_goesOn 285 = .ok (.iload_n 3, 1) := by decide +kernel
theorem dX12_goesOn_286 : decode cX12_goesOn 286 = .ok (.ifCond .eq 114, 3) := by decide +kernel
theorem dX12_goesOn_289 : decode cX12_goesOn 289 = .ok (.aload_n 0, 1) := by decide +kernel
theorem dX12_goesOn_290 : decode cX12_goesOn 290 = .ok (.ldc2_w 300, 3) := by decide +kernel
theorem dX12_goesOn_293 : decode cX12_goesOn 293 = .ok (.invokevirtual 326, 3) := by decide +kernel
theorem dX12_goesOn_296 : decode cX12_goesOn 296 = .ok (.ifCond .ne 13, 3) := by decide +kernel
theorem dX12_goesOn_299 : decode cX12_goesOn 299 = .ok (.aload_n 0, 1) := by decide +kernel
theorem dX12_goesOn_300 : decode cX12_goesOn 300 = .ok (.ldc2_w 298, 3) := by decide +kernel
theorem dX12_goesOn_303 : decode cX12_goesOn 303 = .ok (.invokevirtual 326, 3) := by decide +kernel
theorem dX12_goesOn_306 : decode cX12_goesOn 306 = .ok (.ifCond .eq 94, 3) := by decide +kernel
theorem dX12_goesOn_309 : decode cX12_goesOn 309 = .ok (.aload_n 0, 1) := by decide +kernel
theorem dX12_goesOn_310 : decode cX12_goesOn 310 = .ok (.getfield 109, 3) := by decide +kernel
theorem dX12_goesOn_313 : decode cX12_goesOn 313 = .ok (.iload_n 1, 1) := by decide +kernel
theorem dX12_goesOn_314 : decode cX12_goesOn 314 = .ok (.iaload, 1) := by decide +kernel
theorem dX12_goesOn_315 : decode cX12_goesOn 315 = .ok (.ifCond .ne 12, 3) := by decide +kernel
theorem dX12_goesOn_318 : decode cX12_goesOn 318 = .ok (.aload_n 0, 1) := by decide +kernel
theorem dX12_goesOn_319 : decode cX12_goesOn 319 = .ok (.iconst 1, 1) := by decide +kernel
theorem dX12_goesOn_320 : decode cX12_goesOn 320 = .ok (.aload_n 0, 1) := by decide +kernel
theorem dX12_goesOn_321 : decode cX12_goesOn 321 = .ok (.getfield 23, 3) := by decide +kernel
theorem dX12_goesOn_324 : decode cX12_goesOn 324 = .ok (.invokevirtual 232, 3) := by decide +kernel
theorem dX12_goesOn_327 : decode cX12_goesOn 327 = .ok (.aload_n 0, 1) := by decide +kernel
theorem dX12_goesOn_328 : decode cX12_goesOn 328 = .ok (.getfield 36, 3) := by decide +kernel
theorem dX12_goesOn_331 : decode cX12_goesOn 331 = .ok (.ifCond .le 5, 3) := by decide +kernel
theorem dX12_goesOn_334 : decode cX12_goesOn 334 = .ok (.iconst 0, 1) := by decide +kernel
theorem dX12_goesOn_335 : decode cX12_goesOn 335 = .ok (.ireturn, 1) := by decide +kernel
theorem dX12_goesOn_336 : decode cX12_goesOn 336 = .ok (.aload_n 0, 1) := by decide +kernel
theorem dX12_goesOn_337 : decode cX12_goesOn 337 = .ok (.ldc2_w 300, 3) := by decide +kernel
theorem dX12_goesOn_340 : decode cX12_goesOn 340 = .ok (.invokevirtual 326, 3) := by decide +kernel
theorem dX12_goesOn_343 : decode cX12_goesOn 343 = .ok (.istore 4, 2) := by decide +kernel
theorem dX12_goesOn_345 : decode cX12_goesOn 345 = .ok (.aload_n 0, 1) := by decide +kernel
theorem dX12_goesOn_346 : decode cX12_goesOn 346 = .ok (.iload 4, 2) := by decide +kernel
theorem dX12_goesOn_348 : decode cX12_goesOn 348 = .ok (.ifCond .eq 7, 3) := by decide +kernel
theorem dX12_goesOn_351 : decode cX12_goesOn 351 = .ok (.iconst 2, 1) := by decide +kernel
theorem dX12_goesOn_352 : decode cX12_goesOn 352 = .ok (.goto 4, 3) := by decide +kernel
theorem dX12_goesOn_355 : decode cX12_goesOn 355 = .ok (.iconst 1, 1) := by decide +kernel
theorem dX12_goesOn_356 : decode cX12_goesOn 356 = .ok (.invokevirtual 343, 3) := by decide +kernel
theorem dX12_goesOn_359 : decode cX12_goesOn 359 = .ok (.aload_n 0, 1) := by decide +kernel
theorem dX12_goesOn_360 : decode cX12_goesOn 360 = .ok (.iload 4, 2) := by decide +kernel
theorem dX12_goesOn_362 : decode cX12_goesOn 362 = .ok (.ifCond .eq 8, 3) := by decide +kernel
theorem dX12_goesOn_365 : decode cX12_goesOn 365 = .ok (.bipush 41, 2) := by decide +kernel
theorem dX12_goesOn_367 : decode cX12_goesOn 367 = .ok (.goto 5, 3) := by decide +kernel
theorem dX12_goesOn_370 : decode cX12_goesOn 370 = .ok (.bipush 42, 2) := by decide +kernel
theorem dX12_goesOn_372 : decode cX12_goesOn 372 = .ok (.invokevirtual 330, 3) := by decide +kernel
theorem dX12_goesOn_375 : decode cX12_goesOn 375 = .ok (.aload_n 0, 1) := by decide +kernel
theorem dX12_goesOn_376 : decode cX12_goesOn 376 = .ok (.getfield 109, 3) := by decide +kernel
theorem dX12_goesOn_379 : decode cX12_goesOn 379 = .ok (.iload_n 1, 1) := by decide +kernel
theorem dX12_goesOn_380 : decode cX12_goesOn 380 = .ok (.iconst 0, 1) := by decide +kernel
theorem dX12_goesOn_381 : decode cX12_goesOn 381 = .ok (.iastore, 1) := by decide +kernel
theorem dX12_goesOn_382 : decode cX12_goesOn 382 = .ok (.aload_n 0, 1) := by decide +kernel
theorem dX12_goesOn_383 : decode cX12_goesOn 383 = .ok (.getfield 112, 3) := by decide +kernel
theorem dX12_goesOn_386 : decode cX12_goesOn 386 = .ok (.iload_n 1, 1) := by decide +kernel
theorem dX12_goesOn_387 : decode cX12_goesOn 387 = .ok (.iconst 1, 1) := by decide +kernel
theorem dX12_goesOn_388 : decode cX12_goesOn 388 = .ok (.bastore, 1) := by decide +kernel
theorem dX12_goesOn_389 : decode cX12_goesOn 389 = .ok (.aload_n 0, 1) := by decide +kernel
theorem dX12_goesOn_390 : decode cX12_goesOn 390 = .ok (.invokevirtual 249, 3) := by decide +kernel
theorem dX12_goesOn_393 : decode cX12_goesOn 393 = .ok (.aload_n 0, 1) := by decide +kernel
theorem dX12_goesOn_394 : decode cX12_goesOn 394 = .ok (.iconst 0, 1) := by decide +kernel
theorem dX12_goesOn_395 : decode cX12_goesOn 395 = .ok (.putfield 134, 3) := by decide +kernel
theorem dX12_goesOn_398 : decode cX12_goesOn 398 = .ok (.iconst 1, 1) := by decide +kernel
theorem dX12_goesOn_399 : decode cX12_goesOn 399 = .ok (.ireturn, 1) := by decide +kernel
theorem dX12_goesOn_400 : decode cX12_goesOn 400 = .ok (.iload_n 3, 1) := by decide +kernel
theorem dX12_goesOn_401 : decode cX12_goesOn 401 = .ok (.ifCond .eq 21, 3) := by decide +kernel
theorem dX12_goesOn_404 : decode cX12_goesOn 404 = .ok (.aload_n 0, 1) := by decide +kernel
theorem dX12_goesOn_405 : decode cX12_goesOn 405 = .ok (.getfield 109, 3) := by decide +kernel
theorem dX12_goesOn_408 : decode cX12_goesOn 408 = .ok (.iload_n 1, 1) := by decide +kernel
theorem dX12_goesOn_409 : decode cX12_goesOn 409 = .ok (.iaload, 1) := by decide +kernel
theorem dX12_goesOn_410 : decode cX12_goesOn 410 = .ok (.ifCond .ne 12, 3) := by decide +kernel
theorem dX12_goesOn_413 : decode cX12_goesOn 413 = .ok (.aload_n 0, 1) := by decide +kernel
theorem dX12_goesOn_414 : decode cX12_goesOn 414 = .ok (.iconst 1, 1) := by decide +kernel
theorem dX12_goesOn_415 : decode cX12_goesOn 415 = .ok (.aload_n 0, 1) := by decide +kernel
theorem dX12_goesOn_416 : decode cX12_goesOn 416 = .ok (.getfield 23, 3) := by decide +kernel
theorem dX12_goesOn_419 : decode cX12_goesOn 419 = .ok (.invokevirtual 232, 3) := by decide +kernel
theorem dX12_goesOn_422 : decode cX12_goesOn 422 = .ok (.iload_n 2, 1) := by decide +kernel
theorem dX12_goesOn_423 : decode cX12_goesOn 423 = .ok (.iconst 2, 1) := by decide +kernel
theorem dX12_goesOn_424 : decode cX12_goesOn 424 = .ok (.if_icmp .ge 17, 3) := by decide +kernel
theorem dX12_goesOn_427 : decode cX12_goesOn 427 = .ok (.aload_n 0, 1) := by decide +kernel
theorem dX12_goesOn_428 : decode cX12_goesOn 428 = .ok (.getfield 36, 3) := by decide +kernel
theorem dX12_goesOn_431 : decode cX12_goesOn 431 = .ok (.ifCond .ne 8, 3) := by decide +kernel
theorem dX12_goesOn_434 : decode cX12_goesOn 434 = .ok (.aload_n 0, 1) := by decide +kernel
theorem dX12_goesOn_435 : decode cX12_goesOn 435 = .ok (.iconst 1, 1) := by decide +kernel
theorem dX12_goesOn_436 : decode cX12_goesOn 436 = .ok (.invokevirtual 343, 3) := by decide +kernel
theorem dX12_goesOn_439 : decode cX12_goesOn 439 = .ok (.iconst 0, 1) := by decide +kernel
theorem dX12_goesOn_440 : decode cX12_goesOn 440 = .ok (.ireturn, 1) := by decide +kernel
theorem dX12_goesOn_441 : decode cX12_goesOn 441 = .ok (.iload_n 2, 1) := by decide +kernel
theorem dX12_goesOn_442 : decode cX12_goesOn 442 = .ok (.iconst 3, 1) := by decide +kernel
theorem dX12_goesOn_443 : decode cX12_goesOn 443 = .ok (.if_icmp .eq 9, 3) := by decide +kernel
theorem dX12_goesOn_446 : decode cX12_goesOn 446 = .ok (.iload_n 2, 1) := by decide +kernel
theorem dX12_goesOn_447 : decode cX12_goesOn 447 = .ok (.bipush 6, 2) := by decide +kernel
theorem dX12_goesOn_449 : decode cX12_goesOn 449 = .ok (.if_icmp .ne 69, 3) := by decide +kernel
theorem dX12_goesOn_452 : decode cX12_goesOn 452 = .ok (.aload_n 0, 1) := by decide +kernel
theorem dX12_goesOn_453 : decode cX12_goesOn 453 = .ok (.bipush 44, 2) := by decide +kernel
theorem dX12_goesOn_455 : decode cX12_goesOn 455 = .ok (.invokevirtual 246, 3) := by decide +kernel
theorem dX12_goesOn_458 : decode cX12_goesOn 458 = .ok (.ifCond .ne 12, 3) := by decide +kernel
theorem dX12_goesOn_461 : decode cX12_goesOn 461 = .ok (.aload_n 0, 1) := by decide +kernel
theorem dX12_goesOn_462 : decode cX12_goesOn 462 = .ok (.iconst 1, 1) := by decide +kernel
theorem dX12_goesOn_463 : decode cX12_goesOn 463 = .ok (.aload_n 0, 1) := by decide +kernel
theorem dX12_goesOn_464 : decode cX12_goesOn 464 = .ok (.getfield 23, 3) := by decide +kernel
theorem dX12_goesOn_467 : decode cX12_goesOn 467 = .ok (.invokevirtual 232, 3) := by decide +kernel
theorem dX12_goesOn_470 : decode cX12_goesOn 470 = .ok (.aload_n 0, 1) := by decide +kernel
theorem dX12_goesOn_471 : decode cX12_goesOn 471 = .ok (.getfield 36, 3) := by decide +kernel
theorem dX12_goesOn_474 : decode cX12_goesOn 474 = .ok (.ifCond .le 5, 3) := by decide +kernel
theorem dX12_goesOn_477 : decode cX12_goesOn 477 = .ok (.iconst 0, 1) := by decide +kernel
theorem dX12_goesOn_478 : decode cX12_goesOn 478 = .ok (.ireturn, 1) := by decide +kernel
theorem dX12_goesOn_479 : decode cX12_goesOn 479 = .ok (.aload_n 0, 1) := by decide +kernel
theorem dX12_goesOn_480 : decode cX12_goesOn 480 = .ok (.iconst 1, 1) := by decide +kernel
theorem dX12_goesOn_481 : decode cX12_goesOn 481 = .ok (.invokevirtual 343, 3) := by decide +kernel
theorem dX12_goesOn_484 : decode cX12_goesOn 484 = .ok (.aload_n 0, 1) := by decide +kernel
theorem dX12_goesOn_485 : decode cX12_goesOn 485 = .ok (.getfield 106, 3) := by decide +kernel
theorem dX12_goesOn_488 : decode cX12_goesOn 488 = .ok (.iload_n 1, 1) := by decide +kernel
theorem dX12_goesOn_489 : decode cX12_goesOn 489 = .ok (.iload_n 2, 1) := by decide +kernel
theorem dX12_goesOn_490 : decode cX12_goesOn 490 = .ok (.iconst 3, 1) := by decide +kernel
theorem dX12_goesOn_491 : decode cX12_goesOn 491 = .ok (.if_icmp .ne 7, 3) := by decide +kernel
theorem dX12_goesOn_494 : decode cX12_goesOn 494 = .ok (.iconst 4, 1) := by decide +kernel
theorem dX12_goesOn_495 : decode cX12_goesOn 495 = .ok (.goto 4, 3) := by decide +kernel
theorem dX12_goesOn_498 : decode cX12_goesOn 498 = .ok (.iconst 3, 1) := by decide +kernel
theorem dX12_goesOn_499 : decode cX12_goesOn 499 = .ok (.iastore, 1) := by decide +kernel
theorem dX12_goesOn_500 : decode cX12_goesOn 500 = .ok (.aload_n 0, 1) := by decide +kernel
theorem dX12_goesOn_501 : decode cX12_goesOn 501 = .ok (.getfield 109, 3) := by decide +kernel
theorem dX12_goesOn_504 : decode cX12_goesOn 504 = .ok (.iload_n 1, 1) := by decide +kernel
theorem dX12_goesOn_505 : decode cX12_goesOn 505 = .ok (.iconst 0, 1) := by decide +kernel
theorem dX12_goesOn_506 : decode cX12_goesOn 506 = .ok (.iastore, 1) := by decide +kernel
theorem dX12_goesOn_507 : decode cX12_goesOn 507 = .ok (.aload_n 0, 1) := by decide +kernel
theorem dX12_goesOn_508 : decode cX12_goesOn 508 = .ok (.invokevirtual 249, 3) := by decide +kernel
theorem dX12_goesOn_511 : decode cX12_goesOn 511 = .ok (.aload_n 0, 1) := by decide +kernel
theorem dX12_goesOn_512 : decode cX12_goesOn 512 = .ok (.iconst 0, 1) := by decide +kernel
theorem dX12_goesOn_513 : decode cX12_goesOn 513 = .ok (.putfield 134, 3) := by decide +kernel
theorem dX12_goesOn_516 : decode cX12_goesOn 516 = .ok (.iconst 1, 1) := by decide +kernel
theorem dX12_goesOn_517 : decode cX12_goesOn 517 = .ok (.ireturn, 1) := by decide +kernel
theorem dX12_goesOn_518 : decode cX12_goesOn 518 = .ok (.aload_n 0, 1) := by decide +kernel
theorem dX12_goesOn_519 : decode cX12_goesOn 519 = .ok (.iload_n 2, 1) := by decide +kernel
theorem dX12_goesOn_520 : decode cX12_goesOn 520 = .ok (.iconst 5, 1) := by decide +kernel
theorem dX12_goesOn_521 : decode cX12_goesOn 521 = .ok (.if_icmp .ne 8, 3) := by decide +kernel
theorem dX12_goesOn_524 : decode cX12_goesOn 524 = .ok (.bipush 93, 2) := by decide +kernel
theorem dX12_goesOn_526 : decode cX12_goesOn 526 = .ok (.goto 5, 3) := by decide +kernel
theorem dX12_goesOn_529 : decode cX12_goesOn 529 = .ok (.bipush 41, 2) := by decide +kernel
theorem dX12_goesOn_531 : decode cX12_goesOn 531 = .ok (.invokevirtual 246, 3) := by decide +kernel
theorem dX12_goesOn_534 : decode cX12_goesOn 534 = .ok (.ifCond .ne 12, 3) := by decide +kernel
theorem dX12_goesOn_537 : decode cX12_goesOn 537 = .ok (.aload_n 0, 1) := by decide +kernel
theorem dX12_goesOn_538 : decode cX12_goesOn 538 = .ok (.iconst 1, 1) := by decide +kernel
theorem dX12_goesOn_539 : decode cX12_goesOn 539 = .ok (.aload_n 0, 1) := by decide +kernel
theorem dX12_goesOn_540 : decode cX12_goesOn 540 = .ok (.getfield 23, 3) := by decide +kernel
theorem dX12_goesOn_543 : decode cX12_goesOn 543 = .ok (.invokevirtual 232, 3) := by decide +kernel
theorem dX12_goesOn_546 : decode cX12_goesOn 546 = .ok (.aload_n 0, 1) := by decide +kernel
theorem dX12_goesOn_547 : decode cX12_goesOn 547 = .ok (.getfield 36, 3) := by decide +kernel
theorem dX12_goesOn_550 : decode cX12_goesOn 550 = .ok (.ifCond .le 5, 3) := by decide +kernel
theorem dX12_goesOn_553 : decode cX12_goesOn 553 = .ok (.iconst 0, 1) := by decide +kernel
theorem dX12_goesOn_554 : decode cX12_goesOn 554 = .ok (.ireturn, 1) := by decide +kernel
theorem dX12_goesOn_555 : decode cX12_goesOn 555 = .ok (.aload_n 0, 1) := by decide +kernel
theorem dX12_goesOn_556 : decode cX12_goesOn 556 = .ok (.iconst 1, 1) := by decide +kernel
theorem dX12_goesOn_557 : decode cX12_goesOn 557 = .ok (.invokevirtual 343, 3) := by decide +kernel
theorem dX12_goesOn_560 : decode cX12_goesOn 560 = .ok (.aload_n 0, 1) := by decide +kernel
theorem dX12_goesOn_561 : decode cX12_goesOn 561 = .ok (.dup, 1) := by decide +kernel
theorem dX12_goesOn_562 : decode cX12_goesOn 562 = .ok (.getfield 122, 3) := by decide +kernel
theorem dX12_goesOn_565 : decode cX12_goesOn 565 = .ok (.iconst 1, 1) := by decide +kernel
theorem dX12_goesOn_566 : decode cX12_goesOn 566 = .ok (.isub, 1) := by decide +kernel
theorem dX12_goesOn_567 : decode cX12_goesOn 567 = .ok (.putfield 122, 3) := by decide +kernel
theorem dX12_goesOn_570 : decode cX12_goesOn 570 = .ok (.aload_n 0, 1) := by decide +kernel
theorem dX12_goesOn_571 : decode cX12_goesOn 571 = .ok (.dup, 1) := by decide +kernel
theorem dX12_goesOn_572 : decode cX12_goesOn 572 = .ok (.getfield 125, 3) := by decide +kernel
theorem dX12_goesOn_575 : decode cX12_goesOn 575 = .ok (.iconst 1, 1) := by decide +kernel
theorem dX12_goesOn_576 : decode cX12_goesOn 576 = .ok (.isub, 1) := by decide +kernel
theorem dX12_goesOn_577 : decode cX12_goesOn 577 = .ok (.putfield 125, 3) := by decide +kernel
theorem dX12_goesOn_580 : decode cX12_goesOn 580 = .ok (.iload_n 2, 1) := by decide +kernel
theorem dX12_goesOn_581 : decode cX12_goesOn 581 = .ok (.iconst 4, 1) := by decide +kernel
theorem dX12_goesOn_582 : decode cX12_goesOn 582 = .ok (.if_icmp .ne 14, 3) := by decide +kernel
theorem dX12_goesOn_585 : decode cX12_goesOn 585 = .ok (.aload_n 0, 1) := by decide +kernel
theorem dX12_goesOn_586 : decode cX12_goesOn 586 = .ok (.aload_n 0, 1) := by decide +kernel
theorem dX12_goesOn_587 : decode cX12_goesOn 587 = .ok (.getfield 116, 3) := by decide +kernel
theorem dX12_goesOn_590 : decode cX12_goesOn 590 = .ok (.iload_n 1, 1) := by decide +kernel
theorem dX12_goesOn_591 : decode cX12_goesOn 591 = .ok (.iaload, 1) := by decide +kernel
theorem dX12_goesOn_592 : decode cX12_goesOn 592 = .ok (.iconst 0, 1) := by decide +kernel
theorem dX12_goesOn_593 : decode cX12_goesOn 593 = .ok (.invokevirtual 317, 3) := by decide +kernel
theorem dX12_goesOn_596 : decode cX12_goesOn 596 = .ok (.iload_n 2, 1) := by decide +kernel
theorem dX12_goesOn_597 : decode cX12_goesOn 597 = .ok (.iconst 5, 1) := by decide +kernel
theorem dX12_goesOn_598 : decode cX12_goesOn 598 = .ok (.if_icmp .ne 15, 3) := by decide +kernel
theorem dX12_goesOn_601 : decode cX12_goesOn 601 = .ok (.aload_n 0, 1) := by decide +kernel
theorem dX12_goesOn_602 : decode cX12_goesOn 602 = .ok (.getfield 109, 3) := by decide +kernel
theorem dX12_goesOn_605 : decode cX12_goesOn 605 = .ok (.aload_n 0, 1) := by decide +kernel
theorem dX12_goesOn_606 : decode cX12_goesOn 606 = .ok (.getfield 122, 3) := by decide +kernel
theorem dX12_goesOn_609 : decode cX12_goesOn 609 = .ok (.iconst 1, 1) := by decide +kernel
theorem dX12_goesOn_610 : decode cX12_goesOn 610 = .ok (.isub, 1) := by decide +kernel
theorem dX12_goesOn_611 : decode cX12_goesOn 611 = .ok (.iconst 2, 1) := by decide +kernel
theorem dX12_goesOn_612 : decode cX12_goesOn 612 = .ok (.iastore, 1) := by decide +kernel
theorem dX12_goesOn_613 : decode cX12_goesOn 613 = .ok (.aload_n 0, 1) := by decide +kernel
theorem dX12_goesOn_614 : decode cX12_goesOn 614 = .ok (.invokevirtual 249, 3) := by decide +kernel
theorem dX12_goesOn_617 : decode cX12_goesOn 617 = .ok (.iconst 1, 1) := by decide +kernel
theorem dX12_goesOn_618 : decode cX12_goesOn 618 = .ok (.ireturn, 1) := by decide +kernel
theorem dX12_reads_0 : decode cX12_reads 0 = .ok (.aload_n 0, 1) := by decide +kernel
theorem dX12_reads_1 : decode cX12_reads 1 = .ok (.getfield 36, 3) := by decide +kernel
theorem dX12_reads_4 : decode cX12_reads 4 = .ok (.ifCond .le 4, 3) := by decide +kernel
theorem dX12_reads_7 : decode cX12_reads 7 = .ok (.return_, 1) := by decide +kernel
theorem dX12_reads_8 : decode cX12_reads 8 = .ok (.aload_n 0, 1) := by decide +kernel
theorem dX12_reads_9 : decode cX12_reads 9 = .ok (.iconst 0, 1) := by decide +kernel
theorem dX12_reads_10 : decode cX12_reads 10 = .ok (.putfield 122, 3) := by decide +kernel
theorem dX12_reads_13 : decode cX12_reads 13 = .ok (.aload_n 0, 1) := by decide +kernel
theorem dX12_reads_14 : decode cX12_reads 14 = .ok (.iconst 0, 1) := by decide +kernel
theorem dX12_reads_15 : decode cX12_reads 15 = .ok (.putfield 125, 3) := by decide +kernel
theorem dX12_reads_18 : decode cX12_reads 18 = .ok (.aload_n 0, 1) := by decide +kernel
theorem dX12_reads_19 : decode cX12_reads 19 = .ok (.iconst 0, 1) := by decide +kernel
theorem dX12_reads_20 : decode cX12_reads 20 = .ok (.putfield 131, 3) := by decide +kernel
theorem dX12_reads_23 : decode cX12_reads 23 = .ok (.aload_n 0, 1) := by decide +kernel
theorem dX12_reads_24 : decode cX12_reads 24 = .ok (.iconst 0, 1) := by decide +kernel
theorem dX12_reads_25 : decode cX12_reads 25 = .ok (.putfield 134, 3) := by decide +kernel
theorem dX12_reads_28 : decode cX12_reads 28 = .ok (.aload_n 0, 1) := by decide +kernel
theorem dX12_reads_29 : decode cX12_reads 29 = .ok (.iload_n 1, 1) := by decide +kernel
theorem dX12_reads_30 : decode cX12_reads 30 = .ok (.ifCond .eq 7, 3) := by decide +kernel
theorem dX12_reads_33 : decode cX12_reads 33 = .ok (.iconst 1, 1) := by decide +kernel
theorem dX12_reads_34 : decode cX12_reads 34 = .ok (.goto 4, 3) := by decide +kernel
theorem dX12_reads_37 : decode cX12_reads 37 = .ok (.iconst 0, 1) := by decide +kernel
theorem dX12_reads_38 : decode cX12_reads 38 = .ok (.invokevirtual 320, 3) := by decide +kernel
theorem dX12_reads_41 : decode cX12_reads 41 = .ok (.iconst 1, 1) := by decide +kernel
theorem dX12_reads_42 : decode cX12_reads 42 = .ok (.istore_n 2, 1) := by decide +kernel
theorem dX12_reads_43 : decode cX12_reads 43 = .ok (.iload_n 2, 1) := by decide +kernel
theorem dX12_reads_44 : decode cX12_reads 44 = .ok (.ifCond .eq 46, 3) := by decide +kernel
theorem dX12_reads_47 : decode cX12_reads 47 = .ok (.aload_n 0, 1) := by decide +kernel
theorem dX12_reads_48 : decode cX12_reads 48 = .ok (.getfield 134, 3) := by decide +kernel
theorem dX12_reads_51 : decode cX12_reads 51 = .ok (.ifCond .ne 14, 3) := by decide +kernel
theorem dX12_reads_54 : decode cX12_reads 54 = .ok (.aload_n 0, 1) := by decide +kernel
theorem dX12_reads_55 : decode cX12_reads 55 = .ok (.aload_n 0, 1) := by decide +kernel
theorem dX12_reads_56 : decode cX12_reads 56 = .ok (.invokevirtual 346, 3) := by decide +kernel
theorem dX12_reads_59 : decode cX12_reads 59 = .ok (.putfield 134, 3) := by decide +kernel
theorem dX12_reads_62 : decode cX12_reads 62 = .ok (.goto 8, 3) := by decide +kernel
theorem dX12_reads_65 : decode cX12_reads 65 = .ok (.aload_n 0, 1) := by decide +kernel
theorem dX12_reads_66 : decode cX12_reads 66 = .ok (.invokevirtual 349, 3) := by decide +kernel
theorem dX12_reads_69 : decode cX12_reads 69 = .ok (.istore_n 2, 1) := by decide +kernel
theorem dX12_reads_70 : decode cX12_reads 70 = .ok (.iload_n 2, 1) := by decide +kernel
theorem dX12_reads_71 : decode cX12_reads 71 = .ok (.ifCond .eq 14, 3) := by decide +kernel
theorem dX12_reads_74 : decode cX12_reads 74 = .ok (.aload_n 0, 1) := by decide +kernel
theorem dX12_reads_75 : decode cX12_reads 75 = .ok (.getfield 36, 3) := by decide +kernel
theorem dX12_reads_78 : decode cX12_reads 78 = .ok (.ifCond .ne 7, 3) := by decide +kernel
theorem dX12_reads_81 : decode cX12_reads 81 = .ok (.iconst 1, 1) := by decide +kernel
theorem dX12_reads_82 : decode cX12_reads 82 = .ok (.goto 4, 3) := by decide +kernel
theorem dX12_reads_85 : decode cX12_reads 85 = .ok (.iconst 0, 1) := by decide +kernel
theorem dX12_reads_86 : decode cX12_reads 86 = .ok (.istore_n 2, 1) := by decide +kernel
theorem dX12_reads_87 : decode cX12_reads 87 = .ok (.goto (-44), 3) := by decide +kernel
theorem dX12_reads_90 : decode cX12_reads 90 = .ok (.return_, 1) := by decide +kernel
theorem dX12_isCounted_0 : decode cX12_isCounted 0 = .ok (.aload_n 0, 1) := by decide +kernel
theorem dX12_isCounted_1 : decode cX12_isCounted 1 = .ok (.getfield 36, 3) := by decide +kernel
theorem dX12_isCounted_4 : decode cX12_isCounted 4 = .ok (.ifCond .ne 17, 3) := by decide +kernel
theorem dX12_isCounted_7 : decode cX12_isCounted 7 = .ok (.iload_n 1, 1) := by decide +kernel
theorem dX12_isCounted_8 : decode cX12_isCounted 8 = .ok (.ifCond .eq 13, 3) := by decide +kernel
theorem dX12_isCounted_11 : decode cX12_isCounted 11 = .ok (.aload_n 0, 1) := by decide +kernel
theorem dX12_isCounted_12 : decode cX12_isCounted 12 = .ok (.bipush 6, 2) := by decide +kernel
theorem dX12_isCounted_14 : decode cX12_isCounted 14 = .ok (.aload_n 0, 1) := by decide +kernel
theorem dX12_isCounted_15 : decode cX12_isCounted 15 = .ok (.getfield 23, 3) := by decide +kernel
theorem dX12_isCounted_18 : decode cX12_isCounted 18 = .ok (.invokevirtual 232, 3) := by decide +kernel
theorem dX12_isCounted_21 : decode cX12_isCounted 21 = .ok (.aload_n 0, 1) := by decide +kernel
theorem dX12_isCounted_22 : decode cX12_isCounted 22 = .ok (.getfield 36, 3) := by decide +kernel
theorem dX12_isCounted_25 : decode cX12_isCounted 25 = .ok (.ifCond .ne 7, 3) := by decide +kernel
theorem dX12_isCounted_28 : decode cX12_isCounted 28 = .ok (.aload_n 0, 1) := by decide +kernel
theorem dX12_isCounted_29 : decode cX12_isCounted 29 = .ok (.invokevirtual 249, 3) := by decide +kernel
theorem dX12_isCounted_32 : decode cX12_isCounted 32 = .ok (.aload_n 0, 1) := by decide +kernel
theorem dX12_isCounted_33 : decode cX12_isCounted 33 = .ok (.getfield 36, 3) := by decide +kernel
theorem dX12_isCounted_36 : decode cX12_isCounted 36 = .ok (.ifCond .ne 7, 3) := by decide +kernel
theorem dX12_isCounted_39 : decode cX12_isCounted 39 = .ok (.iconst 1, 1) := by decide +kernel
theorem dX12_isCounted_40 : decode cX12_isCounted 40 = .ok (.goto 4, 3) := by decide +kernel
theorem dX12_isCounted_43 : decode cX12_isCounted 43 = .ok (.iconst 0, 1) := by decide +kernel
theorem dX12_isCounted_44 : decode cX12_isCounted 44 = .ok (.ireturn, 1) := by decide +kernel
theorem dX12_mustWord_0 : decode cX12_mustWord 0 = .ok (.aload_n 0, 1) := by decide +kernel
theorem dX12_mustWord_1 : decode cX12_mustWord 1 = .ok (.invokevirtual 243, 3) := by decide +kernel
theorem dX12_mustWord_4 : decode cX12_mustWord 4 = .ok (.aload_n 0, 1) := by decide +kernel
theorem dX12_mustWord_5 : decode cX12_mustWord 5 = .ok (.getfield 36, 3) := by decide +kernel
theorem dX12_mustWord_8 : decode cX12_mustWord 8 = .ok (.ifCond .le 4, 3) := by decide +kernel
theorem dX12_mustWord_11 : decode cX12_mustWord 11 = .ok (.return_, 1) := by decide +kernel
theorem dX12_mustWord_12 : decode cX12_mustWord 12 = .ok (.aload_n 0, 1) := by decide +kernel
theorem dX12_mustWord_13 : decode cX12_mustWord 13 = .ok (.lload_n 1, 1) := by decide +kernel
theorem dX12_mustWord_14 : decode cX12_mustWord 14 = .ok (.invokevirtual 326, 3) := by decide +kernel
theorem dX12_mustWord_17 : decode cX12_mustWord 17 = .ok (.ifCond .ne 12, 3) := by decide +kernel
theorem dX12_mustWord_20 : decode cX12_mustWord 20 = .ok (.aload_n 0, 1) := by decide +kernel
theorem dX12_mustWord_21 : decode cX12_mustWord 21 = .ok (.iconst 1, 1) := by decide +kernel
theorem dX12_mustWord_22 : decode cX12_mustWord 22 = .ok (.aload_n 0, 1) := by decide +kernel
theorem dX12_mustWord_23 : decode cX12_mustWord 23 = .ok (.getfield 23, 3) := by decide +kernel
theorem dX12_mustWord_26 : decode cX12_mustWord 26 = .ok (.invokevirtual 232, 3) := by decide +kernel
theorem dX12_mustWord_29 : decode cX12_mustWord 29 = .ok (.aload_n 0, 1) := by decide +kernel
theorem dX12_mustWord_30 : decode cX12_mustWord 30 = .ok (.getfield 36, 3) := by decide +kernel
theorem dX12_mustWord_33 : decode cX12_mustWord 33 = .ok (.ifCond .ne 7, 3) := by decide +kernel
theorem dX12_mustWord_36 : decode cX12_mustWord 36 = .ok (.aload_n 0, 1) := by decide +kernel
theorem dX12_mustWord_37 : decode cX12_mustWord 37 = .ok (.invokevirtual 249, 3) := by decide +kernel
theorem dX12_mustWord_40 : decode cX12_mustWord 40 = .ok (.return_, 1) := by decide +kernel
theorem dX12_has2_0 : decode cX12_has2 0 = .ok (.iload_n 0, 1) := by decide +kernel
theorem dX12_has2_1 : decode cX12_has2 1 = .ok (.iload_n 1, 1) := by decide +kernel
theorem dX12_has2_2 : decode cX12_has2 2 = .ok (.ishr, 1) := by decide +kernel
theorem dX12_has2_3 : decode cX12_has2 3 = .ok (.iconst 1, 1) := by decide +kernel
theorem dX12_has2_4 : decode cX12_has2 4 = .ok (.iand, 1) := by decide +kernel
theorem dX12_has2_5 : decode cX12_has2 5 = .ok (.iconst 1, 1) := by decide +kernel
theorem dX12_has2_6 : decode cX12_has2 6 = .ok (.if_icmp .ne 7, 3) := by decide +kernel
theorem dX12_has2_9 : decode cX12_has2 9 = .ok (.iconst 1, 1) := by decide +kernel
theorem dX12_has2_10 : decode cX12_has2 10 = .ok (.goto 4, 3) := by decide +kernel
theorem dX12_has2_13 : decode cX12_has2 13 = .ok (.iconst 0, 1) := by decide +kernel
theorem dX12_has2_14 : decode cX12_has2 14 = .ok (.ireturn, 1) := by decide +kernel
theorem dX12_streamIs_0 : decode cX12_streamIs 0 = .ok (.aload_n 0, 1) := by decide +kernel
theorem dX12_streamIs_1 : decode cX12_streamIs 1 = .ok (.ldc2_w 252, 3) := by decide +kernel
theorem dX12_streamIs_4 : decode cX12_streamIs 4 = .ok (.invokevirtual 352, 3) := by decide +kernel
theorem dX12_streamIs_7 : decode cX12_streamIs 7 = .ok (.aload_n 0, 1) := by decide +kernel
theorem dX12_streamIs_8 : decode cX12_streamIs 8 = .ok (.getfield 54, 3) := by decide +kernel
theorem dX12_streamIs_11 : decode cX12_streamIs 11 = .ok (.aload_n 0, 1) := by decide +kernel
theorem dX12_streamIs_12 : decode cX12_streamIs 12 = .ok (.getfield 100, 3) := by decide +kernel
theorem dX12_streamIs_15 : decode cX12_streamIs 15 = .ok (.aload_n 0, 1) := by decide +kernel
theorem dX12_streamIs_16 : decode cX12_streamIs 16 = .ok (.iconst 1, 1) := by decide +kernel
theorem dX12_streamIs_17 : decode cX12_streamIs 17 = .ok (.sipush 200, 3) := by decide +kernel
theorem dX12_streamIs_20 : decode cX12_streamIs 20 = .ok (.invokevirtual 356, 3) := by decide +kernel
theorem dX12_streamIs_23 : decode cX12_streamIs 23 = .ok (.iastore, 1) := by decide +kernel
theorem dX12_streamIs_24 : decode cX12_streamIs 24 = .ok (.aload_n 0, 1) := by decide +kernel
theorem dX12_streamIs_25 : decode cX12_streamIs 25 = .ok (.ldc2_w 254, 3) := by decide +kernel
theorem dX12_streamIs_28 : decode cX12_streamIs 28 = .ok (.invokevirtual 352, 3) := by decide +kernel
theorem dX12_streamIs_31 : decode cX12_streamIs 31 = .ok (.aload_n 0, 1) := by decide +kernel
theorem dX12_streamIs_32 : decode cX12_streamIs 32 = .ok (.getfield 57, 3) := by decide +kernel
theorem dX12_streamIs_35 : decode cX12_streamIs 35 = .ok (.aload_n 0, 1) := by decide +kernel
theorem dX12_streamIs_36 : decode cX12_streamIs 36 = .ok (.getfield 100, 3) := by decide +kernel
theorem dX12_streamIs_39 : decode cX12_streamIs 39 = .ok (.aload_n 0, 1) := by decide +kernel
theorem dX12_streamIs_40 : decode cX12_streamIs 40 = .ok (.iconst 1, 1) := by decide +kernel
theorem dX12_streamIs_41 : decode cX12_streamIs 41 = .ok (.bipush 20, 2) := by decide +kernel
theorem dX12_streamIs_43 : decode cX12_streamIs 43 = .ok (.invokevirtual 356, 3) := by decide +kernel
theorem dX12_streamIs_46 : decode cX12_streamIs 46 = .ok (.iastore, 1) := by decide +kernel
theorem dX12_streamIs_47 : decode cX12_streamIs 47 = .ok (.aload_n 0, 1) := by decide +kernel
theorem dX12_streamIs_48 : decode cX12_streamIs 48 = .ok (.ldc2_w 256, 3) := by decide +kernel
theorem dX12_streamIs_51 : decode cX12_streamIs 51 = .ok (.invokevirtual 352, 3) := by decide +kernel
theorem dX12_streamIs_54 : decode cX12_streamIs 54 = .ok (.aload_n 0, 1) := by decide +kernel
theorem dX12_streamIs_55 : decode cX12_streamIs 55 = .ok (.getfield 60, 3) := by decide +kernel
theorem dX12_streamIs_58 : decode cX12_streamIs 58 = .ok (.aload_n 0, 1) := by decide +kernel
theorem dX12_streamIs_59 : decode cX12_streamIs 59 = .ok (.getfield 100, 3) := by decide +kernel
theorem dX12_streamIs_62 : decode cX12_streamIs 62 = .ok (.aload_n 0, 1) := by decide +kernel
theorem dX12_streamIs_63 : decode cX12_streamIs 63 = .ok (.bipush 10, 2) := by decide +kernel
theorem dX12_streamIs_65 : decode cX12_streamIs 65 = .ok (.bipush 99, 2) := by decide +kernel
theorem dX12_streamIs_67 : decode cX12_streamIs 67 = .ok (.invokevirtual 356, 3) := by decide +kernel
theorem dX12_streamIs_70 : decode cX12_streamIs 70 = .ok (.iastore, 1) := by decide +kernel
theorem dX12_streamIs_71 : decode cX12_streamIs 71 = .ok (.aload_n 0, 1) := by decide +kernel
theorem dX12_streamIs_72 : decode cX12_streamIs 72 = .ok (.ldc2_w 258, 3) := by decide +kernel
theorem dX12_streamIs_75 : decode cX12_streamIs 75 = .ok (.invokevirtual 352, 3) := by decide +kernel
theorem dX12_streamIs_78 : decode cX12_streamIs 78 = .ok (.aload_n 0, 1) := by decide +kernel
theorem dX12_streamIs_79 : decode cX12_streamIs 79 = .ok (.getfield 63, 3) := by decide +kernel
theorem dX12_streamIs_82 : decode cX12_streamIs 82 = .ok (.aload_n 0, 1) := by decide +kernel
theorem dX12_streamIs_83 : decode cX12_streamIs 83 = .ok (.getfield 100, 3) := by decide +kernel
theorem dX12_streamIs_86 : decode cX12_streamIs 86 = .ok (.aload_n 0, 1) := by decide +kernel
theorem dX12_streamIs_87 : decode cX12_streamIs 87 = .ok (.iconst 0, 1) := by decide +kernel
theorem dX12_streamIs_88 : decode cX12_streamIs 88 = .ok (.sipush 999, 3) := by decide +kernel
theorem dX12_streamIs_91 : decode cX12_streamIs 91 = .ok (.invokevirtual 356, 3) := by decide +kernel
theorem dX12_streamIs_94 : decode cX12_streamIs 94 = .ok (.iastore, 1) := by decide +kernel
theorem dX12_streamIs_95 : decode cX12_streamIs 95 = .ok (.return_, 1) := by decide +kernel
theorem dX12_pathIs_0 : decode cX12_pathIs 0 = .ok (.aload_n 0, 1) := by decide +kernel
theorem dX12_pathIs_1 : decode cX12_pathIs 1 = .ok (.aload_n 0, 1) := by decide +kernel
theorem dX12_pathIs_2 : decode cX12_pathIs 2 = .ok (.getfield 66, 3) := by decide +kernel
theorem dX12_pathIs_5 : decode cX12_pathIs 5 = .ok (.aload_n 0, 1) := by decide +kernel
theorem dX12_pathIs_6 : decode cX12_pathIs 6 = .ok (.getfield 100, 3) := by decide +kernel
theorem dX12_pathIs_9 : decode cX12_pathIs 9 = .ok (.iaload, 1) := by decide +kernel
theorem dX12_pathIs_10 : decode cX12_pathIs 10 = .ok (.iconst 4, 1) := by decide +kernel
theorem dX12_pathIs_11 : decode cX12_pathIs 11 = .ok (.if_icmp .ne 7, 3) := by decide +kernel
theorem dX12_pathIs_14 : decode cX12_pathIs 14 = .ok (.iconst 1, 1) := by decide +kernel
theorem dX12_pathIs_15 : decode cX12_pathIs 15 = .ok (.goto 4, 3) := by decide +kernel
theorem dX12_pathIs_18 : decode cX12_pathIs 18 = .ok (.iconst 0, 1) := by decide +kernel
theorem dX12_pathIs_19 : decode cX12_pathIs 19 = .ok (.invokevirtual 360, 3) := by decide +kernel
theorem dX12_pathIs_22 : decode cX12_pathIs 22 = .ok (.ifCond .ne 4, 3) := by decide +kernel
theorem dX12_pathIs_25 : decode cX12_pathIs 25 = .ok (.return_, 1) := by decide +kernel
theorem dX12_pathIs_26 : decode cX12_pathIs 26 = .ok (.aload_n 0, 1) := by decide +kernel
theorem dX12_pathIs_27 : decode cX12_pathIs 27 = .ok (.invokevirtual 243, 3) := by decide +kernel
theorem dX12_pathIs_30 : decode cX12_pathIs 30 = .ok (.aload_n 0, 1) := by decide +kernel
theorem dX12_pathIs_31 : decode cX12_pathIs 31 = .ok (.getfield 36, 3) := by decide +kernel
theorem dX12_pathIs_34 : decode cX12_pathIs 34 = .ok (.ifCond .le 4, 3) := by decide +kernel
theorem dX12_pathIs_37 : decode cX12_pathIs 37 = .ok (.return_, 1) := by decide +kernel
theorem dX12_pathIs_38 : decode cX12_pathIs 38 = .ok (.aload_n 0, 1) := by decide +kernel
theorem dX12_pathIs_39 : decode cX12_pathIs 39 = .ok (.getfield 20, 3) := by decide +kernel
theorem dX12_pathIs_42 : decode cX12_pathIs 42 = .ok (.iconst 1, 1) := by decide +kernel
theorem dX12_pathIs_43 : decode cX12_pathIs 43 = .ok (.if_icmp .ne 14, 3) := by decide +kernel
theorem dX12_pathIs_46 : decode cX12_pathIs 46 = .ok (.aload_n 0, 1) := by decide +kernel
theorem dX12_pathIs_47 : decode cX12_pathIs 47 = .ok (.aload_n 0, 1) := by decide +kernel
theorem dX12_pathIs_48 : decode cX12_pathIs 48 = .ok (.getfield 32, 3) := by decide +kernel
theorem dX12_pathIs_51 : decode cX12_pathIs 51 = .ok (.invokevirtual 364, 3) := by decide +kernel
theorem dX12_pathIs_54 : decode cX12_pathIs 54 = .ok (.ifCond .eq 12, 3) := by decide +kernel
theorem dX12_pathIs_57 : decode cX12_pathIs 57 = .ok (.aload_n 0, 1) := by decide +kernel
theorem dX12_pathIs_58 : decode cX12_pathIs 58 = .ok (.iconst 1, 1) := by decide +kernel
theorem dX12_pathIs_59 : decode cX12_pathIs 59 = .ok (.aload_n 0, 1) := by decide +kernel
theorem dX12_pathIs_60 : decode cX12_pathIs 60 = .ok (.getfield 23, 3) := by decide +kernel
theorem dX12_pathIs_63 : decode cX12_pathIs 63 = .ok (.invokevirtual 232, 3) := by decide +kernel
theorem dX12_pathIs_66 : decode cX12_pathIs 66 = .ok (.aload_n 0, 1) := by decide +kernel
theorem dX12_pathIs_67 : decode cX12_pathIs 67 = .ok (.getfield 36, 3) := by decide +kernel
theorem dX12_pathIs_70 : decode cX12_pathIs 70 = .ok (.ifCond .ne 24, 3) := by decide +kernel
theorem dX12_pathIs_73 : decode cX12_pathIs 73 = .ok (.aload_n 0, 1) := by decide +kernel
theorem dX12_pathIs_74 : decode cX12_pathIs 74 = .ok (.aload_n 0, 1) := by decide +kernel
theorem dX12_pathIs_75 : decode cX12_pathIs 75 = .ok (.getfield 32, 3) := by decide +kernel
theorem dX12_pathIs_78 : decode cX12_pathIs 78 = .ok (.invokevirtual 367, 3) := by decide +kernel
theorem dX12_pathIs_81 : decode cX12_pathIs 81 = .ok (.iconst (-1), 1) := by decide +kernel
theorem dX12_pathIs_82 : decode cX12_pathIs 82 = .ok (.if_icmp .eq 12, 3) := by decide +kernel
theorem dX12_pathIs_85 : decode cX12_pathIs 85 = .ok (.aload_n 0, 1) := by decide +kernel
theorem dX12_pathIs_86 : decode cX12_pathIs 86 = .ok (.iconst 2, 1) := by decide +kernel
theorem dX12_pathIs_87 : decode cX12_pathIs 87 = .ok (.aload_n 0, 1) := by decide +kernel
theorem dX12_pathIs_88 : decode cX12_pathIs 88 = .ok (.getfield 23, 3) := by decide +kernel
theorem dX12_pathIs_91 : decode cX12_pathIs 91 = .ok (.invokevirtual 232, 3) := by decide +kernel
theorem dX12_pathIs_94 : decode cX12_pathIs 94 = .ok (.aload_n 0, 1) := by decide +kernel
theorem dX12_pathIs_95 : decode cX12_pathIs 95 = .ok (.getfield 36, 3) := by decide +kernel
theorem dX12_pathIs_98 : decode cX12_pathIs 98 = .ok (.ifCond .le 4, 3) := by decide +kernel
theorem dX12_pathIs_101 : decode cX12_pathIs 101 = .ok (.return_, 1) := by decide +kernel
theorem dX12_pathIs_102 : decode cX12_pathIs 102 = .ok (.iconst 4, 1) := by decide +kernel
theorem dX12_pathIs_103 : decode cX12_pathIs 103 = .ok (.aload_n 0, 1) := by decide +kernel
theorem dX12_pathIs_104 : decode cX12_pathIs 104 = .ok (.getfield 100, 3) := by decide +kernel
theorem dX12_pathIs_107 : decode cX12_pathIs 107 = .ok (.imul, 1) := by decide +kernel
theorem dX12_pathIs_108 : decode cX12_pathIs 108 = .ok (.aload_n 0, 1) := by decide +kernel
theorem dX12_pathIs_109 : decode cX12_pathIs 109 = .ok (.getfield 66, 3) := by decide +kernel
theorem dX12_pathIs_112 : decode cX12_pathIs 112 = .ok (.aload_n 0, 1) := by decide +kernel
theorem dX12_pathIs_113 : decode cX12_pathIs 113 = .ok (.getfield 100, 3) := by decide +kernel
theorem dX12_pathIs_116 : decode cX12_pathIs 116 = .ok (.iaload, 1) := by decide +kernel
theorem dX12_pathIs_117 : decode cX12_pathIs 117 = .ok (.iadd, 1) := by decide +kernel
theorem dX12_pathIs_118 : decode cX12_pathIs 118 = .ok (.istore_n 1, 1) := by decide +kernel
theorem dX12_pathIs_119 : decode cX12_pathIs 119 = .ok (.aload_n 0, 1) := by decide +kernel
theorem dX12_pathIs_120 : decode cX12_pathIs 120 = .ok (.getfield 93, 3) := by decide +kernel
theorem dX12_pathIs_123 : decode cX12_pathIs 123 = .ok (.iload_n 1, 1) := by decide +kernel
theorem dX12_pathIs_124 : decode cX12_pathIs 124 = .ok (.aload_n 0, 1) := by decide +kernel
theorem dX12_pathIs_125 : decode cX12_pathIs 125 = .ok (.getfield 32, 3) := by decide +kernel
theorem dX12_pathIs_128 : decode cX12_pathIs 128 = .ok (.lastore, 1) := by decide +kernel
theorem dX12_pathIs_129 : decode cX12_pathIs 129 = .ok (.aload_n 0, 1) := by decide +kernel
theorem dX12_pathIs_130 : decode cX12_pathIs 130 = .ok (.invokevirtual 249, 3) := by decide +kernel
theorem dX12_pathIs_133 : decode cX12_pathIs 133 = .ok (.aload_n 0, 1) := by decide +kernel
theorem dX12_pathIs_134 : decode cX12_pathIs 134 = .ok (.ldc2_w 262, 3) := by decide +kernel
theorem dX12_pathIs_137 : decode cX12_pathIs 137 = .ok (.invokevirtual 352, 3) := by decide +kernel
theorem dX12_pathIs_140 : decode cX12_pathIs 140 = .ok (.aload_n 0, 1) := by decide +kernel
theorem dX12_pathIs_141 : decode cX12_pathIs 141 = .ok (.getfield 69, 3) := by decide +kernel
theorem dX12_pathIs_144 : decode cX12_pathIs 144 = .ok (.iload_n 1, 1) := by decide +kernel
theorem dX12_pathIs_145 : decode cX12_pathIs 145 = .ok (.aload_n 0, 1) := by decide +kernel
theorem dX12_pathIs_146 : decode cX12_pathIs 146 = .ok (.iconst 1, 1) := by decide +kernel
theorem dX12_pathIs_147 : decode cX12_pathIs 147 = .ok (.bipush 9, 2) := by decide +kernel
theorem dX12_pathIs_149 : decode cX12_pathIs 149 = .ok (.invokevirtual 356, 3) := by decide +kernel
theorem dX12_pathIs_152 : decode cX12_pathIs 152 = .ok (.iastore, 1) := by decide +kernel
theorem dX12_pathIs_153 : decode cX12_pathIs 153 = .ok (.aload_n 0, 1) := by decide +kernel
theorem dX12_pathIs_154 : decode cX12_pathIs 154 = .ok (.getfield 72, 3) := by decide +kernel
theorem dX12_pathIs_157 : decode cX12_pathIs 157 = .ok (.iload_n 1, 1) := by decide +kernel
theorem dX12_pathIs_158 : decode cX12_pathIs 158 = .ok (.iconst (-1), 1) := by decide +kernel
theorem dX12_pathIs_159 : decode cX12_pathIs 159 = .ok (.iastore, 1) := by decide +kernel
theorem dX12_pathIs_160 : decode cX12_pathIs 160 = .ok (.aload_n 0, 1) := by decide +kernel
theorem dX12_pathIs_161 : decode cX12_pathIs 161 = .ok (.getfield 36, 3) := by decide +kernel
theorem dX12_pathIs_164 : decode cX12_pathIs 164 = .ok (.ifCond .ne 16, 3) := by decide +kernel
theorem dX12_pathIs_167 : decode cX12_pathIs 167 = .ok (.aload_n 0, 1) := by decide +kernel
theorem dX12_pathIs_168 : decode cX12_pathIs 168 = .ok (.getfield 66, 3) := by decide +kernel
theorem dX12_pathIs_171 : decode cX12_pathIs 171 = .ok (.aload_n 0, 1) := by decide +kernel
theorem dX12_pathIs_172 : decode cX12_pathIs 172 = .ok (.getfield 100, 3) := by decide +kernel
theorem dX12_pathIs_175 : decode cX12_pathIs 175 = .ok (.dup2, 1) := by decide +kernel
theorem dX12_pathIs_176 : decode cX12_pathIs 176 = .ok (.iaload, 1) := by decide +kernel
theorem dX12_pathIs_177 : decode cX12_pathIs 177 = .ok (.iconst 1, 1) := by decide +kernel
theorem dX12_pathIs_178 : decode cX12_pathIs 178 = .ok (.iadd, 1) := by decide +kernel
theorem dX12_pathIs_179 : decode cX12_pathIs 179 = .ok (.iastore, 1) := by decide +kernel
theorem dX12_pathIs_180 : decode cX12_pathIs 180 = .ok (.return_, 1) := by decide +kernel
theorem dX12_joinIs_0 : decode cX12_joinIs 0 = .ok (.aload_n 0, 1) := by decide +kernel
theorem dX12_joinIs_1 : decode cX12_joinIs 1 = .ok (.iconst 0, 1) := by decide +kernel
theorem dX12_joinIs_2 : decode cX12_joinIs 2 = .ok (.invokevirtual 360, 3) := by decide +kernel
theorem dX12_joinIs_5 : decode cX12_joinIs 5 = .ok (.ifCond .ne 4, 3) := by decide +kernel
theorem dX12_joinIs_8 : decode cX12_joinIs 8 = .ok (.return_, 1) := by decide +kernel
theorem dX12_joinIs_9 : decode cX12_joinIs 9 = .ok (.aload_n 0, 1) := by decide +kernel
theorem dX12_joinIs_10 : decode cX12_joinIs 10 = .ok (.invokevirtual 243, 3) := by decide +kernel
theorem dX12_joinIs_13 : decode cX12_joinIs 13 = .ok (.aload_n 0, 1) := by decide +kernel
theorem dX12_joinIs_14 : decode cX12_joinIs 14 = .ok (.getfield 36, 3) := by decide +kernel
theorem dX12_joinIs_17 : decode cX12_joinIs 17 = .ok (.ifCond .le 4, 3) := by decide +kernel
theorem dX12_joinIs_20 : decode cX12_joinIs 20 = .ok (.return_, 1) := by decide +kernel
theorem dX12_joinIs_21 : decode cX12_joinIs 21 = .ok (.aload_n 0, 1) := by decide +kernel
theorem dX12_joinIs_22 : decode cX12_joinIs 22 = .ok (.getfield 20, 3) := by decide +kernel
theorem dX12_joinIs_25 : decode cX12_joinIs 25 = .ok (.iconst 1, 1) := by decide +kernel
theorem dX12_joinIs_26 : decode cX12_joinIs 26 = .ok (.if_icmp .ne 14, 3) := by decide +kernel
theorem dX12_joinIs_29 : decode cX12_joinIs 29 = .ok (.aload_n 0, 1) := by decide +kernel
theorem dX12_joinIs_30 : decode cX12_joinIs 30 = .ok (.aload_n 0, 1) := by decide +kernel
theorem dX12_joinIs_31 : decode cX12_joinIs 31 = .ok (.getfield 32, 3) := by decide +kernel
theorem dX12_joinIs_34 : decode cX12_joinIs 34 = .ok (.invokevirtual 364, 3) := by decide +kernel
theorem dX12_joinIs_37 : decode cX12_joinIs 37 = .ok (.ifCond .eq 12, 3) := by decide +kernel
theorem dX12_joinIs_40 : decode cX12_joinIs 40 = .ok (.aload_n 0, 1) := by decide +kernel
theorem dX12_joinIs_41 : decode cX12_joinIs 41 = .ok (.iconst 1, 1) := by decide +kernel
theorem dX12_joinIs_42 : decode cX12_joinIs 42 = .ok (.aload_n 0, 1) := by decide +kernel
theorem dX12_joinIs_43 : decode cX12_joinIs 43 = .ok (.getfield 23, 3) := by decide +kernel
theorem dX12_joinIs_46 : decode cX12_joinIs 46 = .ok (.invokevirtual 232, 3) := by decide +kernel
theorem dX12_joinIs_49 : decode cX12_joinIs 49 = .ok (.aload_n 0, 1) := by decide +kernel
theorem dX12_joinIs_50 : decode cX12_joinIs 50 = .ok (.getfield 36, 3) := by decide +kernel
theorem dX12_joinIs_53 : decode cX12_joinIs 53 = .ok (.ifCond .le 7, 3) := by decide +kernel
theorem dX12_joinIs_56 : decode cX12_joinIs 56 = .ok (.iconst 0, 1) := by decide +kernel
theorem dX12_joinIs_57 : decode cX12_joinIs 57 = .ok (.goto 11, 3) := by decide +kernel
theorem dX12_joinIs_60 : decode cX12_joinIs 60 = .ok (.aload_n 0, 1) := by decide +kernel
theorem dX12_joinIs_61 : decode cX12_joinIs 61 = .ok (.aload_n 0, 1) := by decide +kernel
theorem dX12_joinIs_62 : decode cX12_joinIs 62 = .ok (.getfield 32, 3) := by decide +kernel
theorem dX12_joinIs_65 : decode cX12_joinIs 65 = .ok (.invokevirtual 367, 3) := by decide +kernel
theorem dX12_joinIs_68 : decode cX12_joinIs 68 = .ok (.istore_n 1, 1) := by decide +kernel
theorem dX12_joinIs_69 : decode cX12_joinIs 69 = .ok (.aload_n 0, 1) := by decide +kernel
theorem dX12_joinIs_70 : decode cX12_joinIs 70 = .ok (.getfield 36, 3) := by decide +kernel
theorem dX12_joinIs_73 : decode cX12_joinIs 73 = .ok (.ifCond .ne 34, 3) := by decide +kernel
theorem dX12_joinIs_76 : decode cX12_joinIs 76 = .ok (.iload_n 1, 1) := by decide +kernel
theorem dX12_joinIs_77 : decode cX12_joinIs 77 = .ok (.iconst 1, 1) := by decide +kernel
theorem dX12_joinIs_78 : decode cX12_joinIs 78 = .ok (.if_icmp .lt 20, 3) := by decide +kernel
theorem dX12_joinIs_81 : decode cX12_joinIs 81 = .ok (.aload_n 0, 1) := by decide +kernel
theorem dX12_joinIs_82 : decode cX12_joinIs 82 = .ok (.getfield 72, 3) := by decide +kernel
theorem dX12_joinIs_85 : decode cX12_joinIs 85 = .ok (.iconst 4, 1) := by decide +kernel
theorem dX12_joinIs_86 : decode cX12_joinIs 86 = .ok (.aload_n 0, 1) := by decide +kernel
theorem dX12_joinIs_87 : decode cX12_joinIs 87 = .ok (.getfield 100, 3) := by decide +kernel
theorem dX12_joinIs_90 : decode cX12_joinIs 90 = .ok (.imul, 1) := by decide +kernel
theorem dX12_joinIs_91 : decode cX12_joinIs 91 = .ok (.iload_n 1, 1) := by decide +kernel
theorem dX12_joinIs_92 : decode cX12_joinIs 92 = .ok (.iadd, 1) := by decide +kernel
theorem dX12_joinIs_93 : decode cX12_joinIs 93 = .ok (.iaload, 1) := by decide +kernel
theorem dX12_joinIs_94 : decode cX12_joinIs 94 = .ok (.iconst (-1), 1) := by decide +kernel
theorem dX12_joinIs_95 : decode cX12_joinIs 95 = .ok (.if_icmp .eq 12, 3) := by decide +kernel
theorem dX12_joinIs_98 : decode cX12_joinIs 98 = .ok (.aload_n 0, 1) := by decide +kernel
theorem dX12_joinIs_99 : decode cX12_joinIs 99 = .ok (.iconst 3, 1) := by decide +kernel
theorem dX12_joinIs_100 : decode cX12_joinIs 100 = .ok (.aload_n 0, 1) := by decide +kernel
theorem dX12_joinIs_101 : decode cX12_joinIs 101 = .ok (.getfield 23, 3) := by decide +kernel
theorem dX12_joinIs_104 : decode cX12_joinIs 104 = .ok (.invokevirtual 232, 3) := by decide +kernel
theorem dX12_joinIs_107 : decode cX12_joinIs 107 = .ok (.aload_n 0, 1) := by decide +kernel
theorem dX12_joinIs_108 : decode cX12_joinIs 108 = .ok (.getfield 36, 3) := by decide +kernel
theorem dX12_joinIs_111 : decode cX12_joinIs 111 = .ok (.ifCond .le 4, 3) := by decide +kernel
theorem dX12_joinIs_114 : decode cX12_joinIs 114 = .ok (.return_, 1) := by decide +kernel
theorem dX12_joinIs_115 : decode cX12_joinIs 115 = .ok (.aload_n 0, 1) := by decide +kernel
theorem dX12_joinIs_116 : decode cX12_joinIs 116 = .ok (.invokevirtual 249, 3) := by decide +kernel
theorem dX12_joinIs_119 : decode cX12_joinIs 119 = .ok (.aload_n 0, 1) := by decide +kernel
theorem dX12_joinIs_120 : decode cX12_joinIs 120 = .ok (.ldc2_w 266, 3) := by decide +kernel
theorem dX12_joinIs_123 : decode cX12_joinIs 123 = .ok (.invokevirtual 352, 3) := by decide +kernel
theorem dX12_joinIs_126 : decode cX12_joinIs 126 = .ok (.aload_n 0, 1) := by decide +kernel
theorem dX12_joinIs_127 : decode cX12_joinIs 127 = .ok (.iconst 0, 1) := by decide +kernel
theorem dX12_joinIs_128 : decode cX12_joinIs 128 = .ok (.bipush 99, 2) := by decide +kernel
theorem dX12_joinIs_130 : decode cX12_joinIs 130 = .ok (.invokevirtual 356, 3) := by decide +kernel
theorem dX12_joinIs_133 : decode cX12_joinIs 133 = .ok (.istore_n 2, 1) := by decide +kernel
theorem dX12_joinIs_134 : decode cX12_joinIs 134 = .ok (.aload_n 0, 1) := by decide +kernel
theorem dX12_joinIs_135 : decode cX12_joinIs 135 = .ok (.ldc2_w 268, 3) := by decide +kernel
theorem dX12_joinIs_138 : decode cX12_joinIs 138 = .ok (.invokevirtual 352, 3) := by decide +kernel
theorem dX12_joinIs_141 : decode cX12_joinIs 141 = .ok (.aload_n 0, 1) := by decide +kernel
theorem dX12_joinIs_142 : decode cX12_joinIs 142 = .ok (.iconst 0, 1) := by decide +kernel
theorem dX12_joinIs_143 : decode cX12_joinIs 143 = .ok (.sipush 999, 3) := by decide +kernel
theorem dX12_joinIs_146 : decode cX12_joinIs 146 = .ok (.invokevirtual 356, 3) := by decide +kernel
theorem dX12_joinIs_149 : decode cX12_joinIs 149 = .ok (.istore_n 3, 1) := by decide +kernel
theorem dX12_joinIs_150 : decode cX12_joinIs 150 = .ok (.aload_n 0, 1) := by decide +kernel
theorem dX12_joinIs_151 : decode cX12_joinIs 151 = .ok (.getfield 36, 3) := by decide +kernel
theorem dX12_joinIs_154 : decode cX12_joinIs 154 = .ok (.ifCond .le 4, 3) := by decide +kernel
theorem dX12_joinIs_157 : decode cX12_joinIs 157 = .ok (.return_, 1) := by decide +kernel
theorem dX12_joinIs_158 : decode cX12_joinIs 158 = .ok (.aload_n 0, 1) := by decide +kernel
theorem dX12_joinIs_159 : decode cX12_joinIs 159 = .ok (.getfield 72, 3) := by decide +kernel
theorem dX12_joinIs_162 : decode cX12_joinIs 162 = .ok (.iconst 4, 1) := by decide +kernel
theorem dX12_joinIs_163 : decode cX12_joinIs 163 = .ok (.aload_n 0, 1) := by decide +kernel
theorem dX12_joinIs_164 : decode cX12_joinIs 164 = .ok (.getfield 100, 3) := by decide +kernel
theorem dX12_joinIs_167 : decode cX12_joinIs 167 = .ok (.imul, 1) := by decide +kernel
theorem dX12_joinIs_168 : decode cX12_joinIs 168 = .ok (.iload_n 1, 1) := by decide +kernel
theorem dX12_joinIs_169 : decode cX12_joinIs 169 = .ok (.iadd, 1) := by decide +kernel
theorem dX12_joinIs_170 : decode cX12_joinIs 170 = .ok (.iload_n 2, 1) := by decide +kernel
theorem dX12_joinIs_171 : decode cX12_joinIs 171 = .ok (.iastore, 1) := by decide +kernel
theorem dX12_joinIs_172 : decode cX12_joinIs 172 = .ok (.aload_n 0, 1) := by decide +kernel
theorem dX12_joinIs_173 : decode cX12_joinIs 173 = .ok (.getfield 75, 3) := by decide +kernel
theorem dX12_joinIs_176 : decode cX12_joinIs 176 = .ok (.iconst 4, 1) := by decide +kernel
theorem dX12_joinIs_177 : decode cX12_joinIs 177 = .ok (.aload_n 0, 1) := by decide +kernel
theorem dX12_joinIs_178 : decode cX12_joinIs 178 = .ok (.getfield 100, 3) := by decide +kernel
theorem dX12_joinIs_181 : decode cX12_joinIs 181 = .ok (.imul, 1) := by decide +kernel
theorem dX12_joinIs_182 : decode cX12_joinIs 182 = .ok (.iload_n 1, 1) := by decide +kernel
theorem dX12_joinIs_183 : decode cX12_joinIs 183 = .ok (.iadd, 1) := by decide +kernel
theorem dX12_joinIs_184 : decode cX12_joinIs 184 = .ok (.iload_n 3, 1) := by decide +kernel
theorem dX12_joinIs_185 : decode cX12_joinIs 185 = .ok (.iastore, 1) := by decide +kernel
theorem dX12_joinIs_186 : decode cX12_joinIs 186 = .ok (.return_, 1) := by decide +kernel
theorem dX12_lossIs_0 : decode cX12_lossIs 0 = .ok (.aload_n 0, 1) := by decide +kernel
theorem dX12_lossIs_1 : decode cX12_lossIs 1 = .ok (.iconst 0, 1) := by decide +kernel
theorem dX12_lossIs_2 : decode cX12_lossIs 2 = .ok (.invokevirtual 360, 3) := by decide +kernel
theorem dX12_lossIs_5 : decode cX12_lossIs 5 = .ok (.ifCond .ne 4, 3) := by decide +kernel
theorem dX12_lossIs_8 : decode cX12_lossIs 8 = .ok (.return_, 1) := by decide +kernel
theorem dX12_lossIs_9 : decode cX12_lossIs 9 = .ok (.aload_n 0, 1) := by decide +kernel
theorem dX12_lossIs_10 : decode cX12_lossIs 10 = .ok (.getfield 78, 3) := by decide +kernel
theorem dX12_lossIs_13 : decode cX12_lossIs 13 = .ok (.aload_n 0, 1) := by decide +kernel
theorem dX12_lossIs_14 : decode cX12_lossIs 14 = .ok (.getfield 100, 3) := by decide +kernel
theorem dX12_lossIs_17 : decode cX12_lossIs 17 = .ok (.aload_n 0, 1) := by decide +kernel
theorem dX12_lossIs_18 : decode cX12_lossIs 18 = .ok (.iconst 0, 1) := by decide +kernel
theorem dX12_lossIs_19 : decode cX12_lossIs 19 = .ok (.bipush 100, 2) := by decide +kernel
theorem dX12_lossIs_21 : decode cX12_lossIs 21 = .ok (.invokevirtual 356, 3) := by decide +kernel
theorem dX12_lossIs_24 : decode cX12_lossIs 24 = .ok (.iastore, 1) := by decide +kernel
theorem dX12_lossIs_25 : decode cX12_lossIs 25 = .ok (.return_, 1) := by decide +kernel
theorem dX12_reading_0 : decode cX12_reading 0 = .ok (.iconst 4, 1) := by decide +kernel
theorem dX12_reading_1 : decode cX12_reading 1 = .ok (.aload_n 0, 1) := by decide +kernel
theorem dX12_reading_2 : decode cX12_reading 2 = .ok (.getfield 100, 3) := by decide +kernel
theorem dX12_reading_5 : decode cX12_reading 5 = .ok (.imul, 1) := by decide +kernel
theorem dX12_reading_6 : decode cX12_reading 6 = .ok (.iload_n 1, 1) := by decide +kernel
theorem dX12_reading_7 : decode cX12_reading 7 = .ok (.iadd, 1) := by decide +kernel
theorem dX12_reading_8 : decode cX12_reading 8 = .ok (.istore_n 2, 1) := by decide +kernel
theorem dX12_reading_9 : decode cX12_reading 9 = .ok (.aload_n 0, 1) := by decide +kernel
theorem dX12_reading_10 : decode cX12_reading 10 = .ok (.aload_n 0, 1) := by decide +kernel
theorem dX12_reading_11 : decode cX12_reading 11 = .ok (.getfield 81, 3) := by decide +kernel
theorem dX12_reading_14 : decode cX12_reading 14 = .ok (.iload_n 2, 1) := by decide +kernel
theorem dX12_reading_15 : decode cX12_reading 15 = .ok (.iaload, 1) := by decide +kernel
theorem dX12_reading_16 : decode cX12_reading 16 = .ok (.iconst (-1), 1) := by decide +kernel
theorem dX12_reading_17 : decode cX12_reading 17 = .ok (.if_icmp .eq 7, 3) := by decide +kernel
theorem dX12_reading_20 : decode cX12_reading 20 = .ok (.iconst 1, 1) := by decide +kernel
theorem dX12_reading_21 : decode cX12_reading 21 = .ok (.goto 4, 3) := by decide +kernel
theorem dX12_reading_24 : decode cX12_reading 24 = .ok (.iconst 0, 1) := by decide +kernel
theorem dX12_reading_25 : decode cX12_reading 25 = .ok (.invokevirtual 360, 3) := by decide +kernel
theorem dX12_reading_28 : decode cX12_reading 28 = .ok (.ifCond .ne 4, 3) := by decide +kernel
theorem dX12_reading_31 : decode cX12_reading 31 = .ok (.return_, 1) := by decide +kernel
theorem dX12_reading_32 : decode cX12_reading 32 = .ok (.aload_n 0, 1) := by decide +kernel
theorem dX12_reading_33 : decode cX12_reading 33 = .ok (.iload_n 1, 1) := by decide +kernel
theorem dX12_reading_34 : decode cX12_reading 34 = .ok (.putfield 103, 3) := by decide +kernel
theorem dX12_reading_37 : decode cX12_reading 37 = .ok (.aload_n 0, 1) := by decide +kernel
theorem dX12_reading_38 : decode cX12_reading 38 = .ok (.getfield 81, 3) := by decide +kernel
theorem dX12_reading_41 : decode cX12_reading 41 = .ok (.iload_n 2, 1) := by decide +kernel
theorem dX12_reading_42 : decode cX12_reading 42 = .ok (.aload_n 0, 1) := by decide +kernel
theorem dX12_reading_43 : decode cX12_reading 43 = .ok (.getfield 97, 3) := by decide +kernel
theorem dX12_reading_46 : decode cX12_reading 46 = .ok (.iastore, 1) := by decide +kernel
theorem dX12_reading_47 : decode cX12_reading 47 = .ok (.aload_n 0, 1) := by decide +kernel
theorem dX12_reading_48 : decode cX12_reading 48 = .ok (.iload_n 1, 1) := by decide +kernel
theorem dX12_reading_49 : decode cX12_reading 49 = .ok (.ifCond .ne 7, 3) := by decide +kernel
theorem dX12_reading_52 : decode cX12_reading 52 = .ok (.iconst 1, 1) := by decide +kernel
theorem dX12_reading_53 : decode cX12_reading 53 = .ok (.goto 4, 3) := by decide +kernel
theorem dX12_reading_56 : decode cX12_reading 56 = .ok (.iconst 0, 1) := by decide +kernel
theorem dX12_reading_57 : decode cX12_reading 57 = .ok (.invokevirtual 371, 3) := by decide +kernel
theorem dX12_reading_60 : decode cX12_reading 60 = .ok (.aload_n 0, 1) := by decide +kernel
theorem dX12_reading_61 : decode cX12_reading 61 = .ok (.getfield 84, 3) := by decide +kernel
theorem dX12_reading_64 : decode cX12_reading 64 = .ok (.iload_n 2, 1) := by decide +kernel
theorem dX12_reading_65 : decode cX12_reading 65 = .ok (.aload_n 0, 1) := by decide +kernel
theorem dX12_reading_66 : decode cX12_reading 66 = .ok (.getfield 97, 3) := by decide +kernel
theorem dX12_reading_69 : decode cX12_reading 69 = .ok (.iastore, 1) := by decide +kernel
theorem dX12_reading_70 : decode cX12_reading 70 = .ok (.return_, 1) := by decide +kernel
theorem dX12_statement_0 : decode cX12_statement 0 = .ok (.aload_n 0, 1) := by decide +kernel
theorem dX12_statement_1 : decode cX12_statement 1 = .ok (.invokevirtual 243, 3) := by decide +kernel
theorem dX12_statement_4 : decode cX12_statement 4 = .ok (.aload_n 0, 1) := by decide +kernel
theorem dX12_statement_5 : decode cX12_statement 5 = .ok (.getfield 36, 3) := by decide +kernel
theorem dX12_statement_8 : decode cX12_statement 8 = .ok (.ifCond .le 4, 3) := by decide +kernel
theorem dX12_statement_11 : decode cX12_statement 11 = .ok (.return_, 1) := by decide +kernel
theorem dX12_statement_12 : decode cX12_statement 12 = .ok (.aload_n 0, 1) := by decide +kernel
theorem dX12_statement_13 : decode cX12_statement 13 = .ok (.ldc2_w 260, 3) := by decide +kernel
theorem dX12_statement_16 : decode cX12_statement 16 = .ok (.invokevirtual 326, 3) := by decide +kernel
theorem dX12_statement_19 : decode cX12_statement 19 = .ok (.ifCond .eq 10, 3) := by decide +kernel
theorem dX12_statement_22 : decode cX12_statement 22 = .ok (.aload_n 0, 1) := by decide +kernel
theorem dX12_statement_23 : decode cX12_statement 23 = .ok (.invokevirtual 375, 3) := by decide +kernel
theorem dX12_statement_26 : decode cX12_statement 26 = .ok (.goto 118, 3) := by decide +kernel
theorem dX12_statement_29 : decode cX12_statement 29 = .ok (.aload_n 0, 1) := by decide +kernel
theorem dX12_statement_30 : decode cX12_statement 30 = .ok (.ldc2_w 264, 3) := by decide +kernel
theorem dX12_statement_33 : decode cX12_statement 33 = .ok (.invokevirtual 326, 3) := by decide +kernel
theorem dX12_statement_36 : decode cX12_statement 36 = .ok (.ifCond .eq 10, 3) := by decide +kernel
theorem dX12_statement_39 : decode cX12_statement 39 = .ok (.aload_n 0, 1) := by decide +kernel
theorem dX12_statement_40 : decode cX12_statement 40 = .ok (.invokevirtual 378, 3) := by decide +kernel
theorem dX12_statement_43 : decode cX12_statement 43 = .ok (.goto 101, 3) := by decide +kernel
theorem dX12_statement_46 : decode cX12_statement 46 = .ok (.aload_n 0, 1) := by decide +kernel
theorem dX12_statement_47 : decode cX12_statement 47 = .ok (.ldc2_w 270, 3) := by decide +kernel
theorem dX12_statement_50 : decode cX12_statement 50 = .ok (.invokevirtual 326, 3) := by decide +kernel
theorem dX12_statement_53 : decode cX12_statement 53 = .ok (.ifCond .eq 10, 3) := by decide +kernel
theorem dX12_statement_56 : decode cX12_statement 56 = .ok (.aload_n 0, 1) := by decide +kernel
theorem dX12_statement_57 : decode cX12_statement 57 = .ok (.invokevirtual 381, 3) := by decide +kernel
theorem dX12_statement_60 : decode cX12_statement 60 = .ok (.goto 84, 3) := by decide +kernel
theorem dX12_statement_63 : decode cX12_statement 63 = .ok (.aload_n 0, 1) := by decide +kernel
theorem dX12_statement_64 : decode cX12_statement 64 = .ok (.ldc2_w 272, 3) := by decide +kernel
theorem dX12_statement_67 : decode cX12_statement 67 = .ok (.invokevirtual 326, 3) := by decide +kernel
theorem dX12_statement_70 : decode cX12_statement 70 = .ok (.ifCond .eq 11, 3) := by decide +kernel
theorem dX12_statement_73 : decode cX12_statement 73 = .ok (.aload_n 0, 1) := by decide +kernel
theorem dX12_statement_74 : decode cX12_statement 74 = .ok (.iconst 0, 1) := by decide +kernel
theorem dX12_statement_75 : decode cX12_statement 75 = .ok (.invokevirtual 384, 3) := by decide +kernel
theorem dX12_statement_78 : decode cX12_statement 78 = .ok (.goto 66, 3) := by decide +kernel
theorem dX12_statement_81 : decode cX12_statement 81 = .ok (.aload_n 0, 1) := by decide +kernel
theorem dX12_statement_82 : decode cX12_statement 82 = .ok (.ldc2_w 274, 3) := by decide +kernel
theorem dX12_statement_85 : decode cX12_statement 85 = .ok (.invokevirtual 326, 3) := by decide +kernel
theorem dX12_statement_88 : decode cX12_statement 88 = .ok (.ifCond .eq 11, 3) := by decide +kernel
theorem dX12_statement_91 : decode cX12_statement 91 = .ok (.aload_n 0, 1) := by decide +kernel
theorem dX12_statement_92 : decode cX12_statement 92 = .ok (.iconst 1, 1) := by decide +kernel
theorem dX12_statement_93 : decode cX12_statement 93 = .ok (.invokevirtual 384, 3) := by decide +kernel
theorem dX12_statement_96 : decode cX12_statement 96 = .ok (.goto 48, 3) := by decide +kernel
theorem dX12_statement_99 : decode cX12_statement 99 = .ok (.aload_n 0, 1) := by decide +kernel
theorem dX12_statement_100 : decode cX12_statement 100 = .ok (.ldc2_w 276, 3) := by decide +kernel
theorem dX12_statement_103 : decode cX12_statement 103 = .ok (.invokevirtual 326, 3) := by decide +kernel
theorem dX12_statement_106 : decode cX12_statement 106 = .ok (.ifCond .eq 11, 3) := by decide +kernel
theorem dX12_statement_109 : decode cX12_statement 109 = .ok (.aload_n 0, 1) := by decide +kernel
theorem dX12_statement_110 : decode cX12_statement 110 = .ok (.iconst 2, 1) := by decide +kernel
theorem dX12_statement_111 : decode cX12_statement 111 = .ok (.invokevirtual 384, 3) := by decide +kernel
theorem dX12_statement_114 : decode cX12_statement 114 = .ok (.goto 30, 3) := by decide +kernel
theorem dX12_statement_117 : decode cX12_statement 117 = .ok (.aload_n 0, 1) := by decide +kernel
theorem dX12_statement_118 : decode cX12_statement 118 = .ok (.ldc2_w 278, 3) := by decide +kernel
theorem dX12_statement_121 : decode cX12_statement 121 = .ok (.invokevirtual 326, 3) := by decide +kernel
theorem dX12_statement_124 : decode cX12_statement 124 = .ok (.ifCond .eq 11, 3) := by decide +kernel
theorem dX12_statement_127 : decode cX12_statement 127 = .ok (.aload_n 0, 1) := by decide +kernel
theorem dX12_statement_128 : decode cX12_statement 128 = .ok (.iconst 3, 1) := by decide +kernel
theorem dX12_statement_129 : decode cX12_statement 129 = .ok (.invokevirtual 384, 3) := by decide +kernel
theorem dX12_statement_132 : decode cX12_statement 132 = .ok (.goto 12, 3) := by decide +kernel
theorem dX12_statement_135 : decode cX12_statement 135 = .ok (.aload_n 0, 1) := by decide +kernel
theorem dX12_statement_136 : decode cX12_statement 136 = .ok (.iconst 1, 1) := by decide +kernel
theorem dX12_statement_137 : decode cX12_statement 137 = .ok (.aload_n 0, 1) := by decide +kernel
theorem dX12_statement_138 : decode cX12_statement 138 = .ok (.getfield 23, 3) := by decide +kernel
theorem dX12_statement_141 : decode cX12_statement 141 = .ok (.invokevirtual 232, 3) := by decide +kernel
theorem dX12_statement_144 : decode cX12_statement 144 = .ok (.return_, 1) := by decide +kernel
theorem dX12_finishes_0 : decode cX12_finishes 0 = .ok (.aload_n 0, 1) := by decide +kernel
theorem dX12_finishes_1 : decode cX12_finishes 1 = .ok (.invokevirtual 243, 3) := by decide +kernel
theorem dX12_finishes_4 : decode cX12_finishes 4 = .ok (.aload_n 0, 1) := by decide +kernel
theorem dX12_finishes_5 : decode cX12_finishes 5 = .ok (.getfield 36, 3) := by decide +kernel
theorem dX12_finishes_8 : decode cX12_finishes 8 = .ok (.ifCond .le 4, 3) := by decide +kernel
theorem dX12_finishes_11 : decode cX12_finishes 11 = .ok (.return_, 1) := by decide +kernel
theorem dX12_finishes_12 : decode cX12_finishes 12 = .ok (.aload_n 0, 1) := by decide +kernel
theorem dX12_finishes_13 : decode cX12_finishes 13 = .ok (.getfield 26, 3) := by decide +kernel
theorem dX12_finishes_16 : decode cX12_finishes 16 = .ok (.istore_n 2, 1) := by decide +kernel
theorem dX12_finishes_17 : decode cX12_finishes 17 = .ok (.iload_n 2, 1) := by decide +kernel
theorem dX12_finishes_18 : decode cX12_finishes 18 = .ok (.aload_n 0, 1) := by decide +kernel
theorem dX12_finishes_19 : decode cX12_finishes 19 = .ok (.getfield 17, 3) := by decide +kernel
theorem dX12_finishes_22 : decode cX12_finishes 22 = .ok (.if_icmp .ge 31, 3) := by decide +kernel
theorem dX12_finishes_25 : decode cX12_finishes 25 = .ok (.aload_n 0, 1) := by decide +kernel
theorem dX12_finishes_26 : decode cX12_finishes 26 = .ok (.getfield 7, 3) := by decide +kernel
theorem dX12_finishes_29 : decode cX12_finishes 29 = .ok (.iload_n 2, 1) := by decide +kernel
theorem dX12_finishes_30 : decode cX12_finishes 30 = .ok (.iaload, 1) := by decide +kernel
theorem dX12_finishes_31 : decode cX12_finishes 31 = .ok (.bipush 32, 2) := by decide +kernel
theorem dX12_finishes_33 : decode cX12_finishes 33 = .ok (.if_icmp .eq 14, 3) := by decide +kernel
theorem dX12_finishes_36 : decode cX12_finishes 36 = .ok (.aload_n 0, 1) := by decide +kernel
theorem dX12_finishes_37 : decode cX12_finishes 37 = .ok (.getfield 7, 3) := by decide +kernel
theorem dX12_finishes_40 : decode cX12_finishes 40 = .ok (.iload_n 2, 1) := by decide +kernel
theorem dX12_finishes_41 : decode cX12_finishes 41 = .ok (.iaload, 1) := by decide +kernel
theorem dX12_finishes_42 : decode cX12_finishes 42 = .ok (.bipush 10, 2) := by decide +kernel
theorem dX12_finishes_44 : decode cX12_finishes 44 = .ok (.if_icmp .ne 9, 3) := by decide +kernel
theorem dX12_finishes_47 : decode cX12_finishes 47 = .ok (.iinc 2 1, 3) := by decide +kernel
theorem dX12_finishes_50 : decode cX12_finishes 50 = .ok (.goto (-33), 3) := by decide +kernel
theorem dX12_finishes_53 : decode cX12_finishes 53 = .ok (.aload_n 0, 1) := by decide +kernel
theorem dX12_finishes_54 : decode cX12_finishes 54 = .ok (.bipush 59, 2) := by decide +kernel
theorem dX12_finishes_56 : decode cX12_finishes 56 = .ok (.invokevirtual 246, 3) := by decide +kernel
theorem dX12_finishes_59 : decode cX12_finishes 59 = .ok (.ifCond .eq 24, 3) := by decide +kernel
theorem dX12_finishes_62 : decode cX12_finishes 62 = .ok (.iload_n 1, 1) := by decide +kernel
theorem dX12_finishes_63 : decode cX12_finishes 63 = .ok (.bipush 40, 2) := by decide +kernel
theorem dX12_finishes_65 : decode cX12_finishes 65 = .ok (.if_icmp .ne 18, 3) := by decide +kernel
theorem dX12_finishes_68 : decode cX12_finishes 68 = .ok (.iload_n 2, 1) := by decide +kernel
theorem dX12_finishes_69 : decode cX12_finishes 69 = .ok (.aload_n 0, 1) := by decide +kernel
theorem dX12_finishes_70 : decode cX12_finishes 70 = .ok (.getfield 17, 3) := by decide +kernel
theorem dX12_finishes_73 : decode cX12_finishes 73 = .ok (.if_icmp .ge 10, 3) := by decide +kernel
theorem dX12_finishes_76 : decode cX12_finishes 76 = .ok (.aload_n 0, 1) := by decide +kernel
theorem dX12_finishes_77 : decode cX12_finishes 77 = .ok (.bipush 6, 2) := by decide +kernel
theorem dX12_finishes_79 : decode cX12_finishes 79 = .ok (.iload_n 2, 1) := by decide +kernel
theorem dX12_finishes_80 : decode cX12_finishes 80 = .ok (.invokevirtual 232, 3) := by decide +kernel
theorem dX12_finishes_83 : decode cX12_finishes 83 = .ok (.aload_n 0, 1) := by decide +kernel
theorem dX12_finishes_84 : decode cX12_finishes 84 = .ok (.bipush 59, 2) := by decide +kernel
theorem dX12_finishes_86 : decode cX12_finishes 86 = .ok (.invokevirtual 387, 3) := by decide +kernel
theorem dX12_finishes_89 : decode cX12_finishes 89 = .ok (.return_, 1) := by decide +kernel
theorem dX12_stream_0 : decode cX12_stream 0 = .ok (.aload_n 0, 1) := by decide +kernel
theorem dX12_stream_1 : decode cX12_stream 1 = .ok (.aload_n 0, 1) := by decide +kernel
theorem dX12_stream_2 : decode cX12_stream 2 = .ok (.getfield 13, 3) := by decide +kernel
theorem dX12_stream_5 : decode cX12_stream 5 = .ok (.putfield 17, 3) := by decide +kernel
theorem dX12_stream_8 : decode cX12_stream 8 = .ok (.aload_n 0, 1) := by decide +kernel
theorem dX12_stream_9 : decode cX12_stream 9 = .ok (.iconst 0, 1) := by decide +kernel
theorem dX12_stream_10 : decode cX12_stream 10 = .ok (.putfield 13, 3) := by decide +kernel
theorem dX12_stream_13 : decode cX12_stream 13 = .ok (.aload_n 0, 1) := by decide +kernel
theorem dX12_stream_14 : decode cX12_stream 14 = .ok (.iconst 0, 1) := by decide +kernel
theorem dX12_stream_15 : decode cX12_stream 15 = .ok (.putfield 26, 3) := by decide +kernel
theorem dX12_stream_18 : decode cX12_stream 18 = .ok (.aload_n 0, 1) := by decide +kernel
theorem dX12_stream_19 : decode cX12_stream 19 = .ok (.iconst 0, 1) := by decide +kernel
theorem dX12_stream_20 : decode cX12_stream 20 = .ok (.putfield 36, 3) := by decide +kernel
theorem dX12_stream_23 : decode cX12_stream 23 = .ok (.aload_n 0, 1) := by decide +kernel
theorem dX12_stream_24 : decode cX12_stream 24 = .ok (.iconst (-1), 1) := by decide +kernel
theorem dX12_stream_25 : decode cX12_stream 25 = .ok (.putfield 39, 3) := by decide +kernel
theorem dX12_stream_28 : decode cX12_stream 28 = .ok (.aload_n 0, 1) := by decide +kernel
theorem dX12_stream_29 : decode cX12_stream 29 = .ok (.iconst 1, 1) := by decide +kernel
theorem dX12_stream_30 : decode cX12_stream 30 = .ok (.aload_n 0, 1) := by decide +kernel
theorem dX12_stream_31 : decode cX12_stream 31 = .ok (.getfield 51, 3) := by decide +kernel
theorem dX12_stream_34 : decode cX12_stream 34 = .ok (.isub, 1) := by decide +kernel
theorem dX12_stream_35 : decode cX12_stream 35 = .ok (.putfield 100, 3) := by decide +kernel
theorem dX12_stream_38 : decode cX12_stream 38 = .ok (.aload_n 0, 1) := by decide +kernel
theorem dX12_stream_39 : decode cX12_stream 39 = .ok (.getfield 66, 3) := by decide +kernel
theorem dX12_stream_42 : decode cX12_stream 42 = .ok (.aload_n 0, 1) := by decide +kernel
theorem dX12_stream_43 : decode cX12_stream 43 = .ok (.getfield 100, 3) := by decide +kernel
theorem dX12_stream_46 : decode cX12_stream 46 = .ok (.iconst 0, 1) := by decide +kernel
theorem dX12_stream_47 : decode cX12_stream 47 = .ok (.iastore, 1) := by decide +kernel
theorem dX12_stream_48 : decode cX12_stream 48 = .ok (.aload_n 0, 1) := by decide +kernel
theorem dX12_stream_49 : decode cX12_stream 49 = .ok (.getfield 78, 3) := by decide +kernel
theorem dX12_stream_52 : decode cX12_stream 52 = .ok (.aload_n 0, 1) := by decide +kernel
theorem dX12_stream_53 : decode cX12_stream 53 = .ok (.getfield 100, 3) := by decide +kernel
theorem dX12_stream_56 : decode cX12_stream 56 = .ok (.iconst 0, 1) := by decide +kernel
theorem dX12_stream_57 : decode cX12_stream 57 = .ok (.iastore, 1) := by decide +kernel
theorem dX12_stream_58 : decode cX12_stream 58 = .ok (.iconst 4, 1) := by decide +kernel
theorem dX12_stream_59 : decode cX12_stream 59 = .ok (.aload_n 0, 1) := by decide +kernel
theorem dX12_stream_60 : decode cX12_stream 60 = .ok (.getfield 100, 3) := by decide +kernel
theorem dX12_stream_63 : decode cX12_stream 63 = .ok (.imul, 1) := by decide +kernel
theorem dX12_stream_64 : decode cX12_stream 64 = .ok (.istore_n 1, 1) := by decide +kernel
theorem dX12_stream_65 : decode cX12_stream 65 = .ok (.iload_n 1, 1) := by decide +kernel
theorem dX12_stream_66 : decode cX12_stream 66 = .ok (.iconst 4, 1) := by decide +kernel
theorem dX12_stream_67 : decode cX12_stream 67 = .ok (.aload_n 0, 1) := by decide +kernel
theorem dX12_stream_68 : decode cX12_stream 68 = .ok (.getfield 100, 3) := by decide +kernel
theorem dX12_stream_71 : decode cX12_stream 71 = .ok (.imul, 1) := by decide +kernel
theorem dX12_stream_72 : decode cX12_stream 72 = .ok (.iconst 4, 1) := by decide +kernel
theorem dX12_stream_73 : decode cX12_stream 73 = .ok (.iadd, 1) := by decide +kernel
theorem dX12_stream_74 : decode cX12_stream 74 = .ok (.if_icmp .ge 16, 3) := by decide +kernel
theorem dX12_stream_77 : decode cX12_stream 77 = .ok (.aload_n 0, 1) := by decide +kernel
theorem dX12_stream_78 : decode cX12_stream 78 = .ok (.getfield 81, 3) := by decide +kernel
theorem dX12_stream_81 : decode cX12_stream 81 = .ok (.iload_n 1, 1) := by decide +kernel
theorem dX12_stream_82 : decode cX12_stream 82 = .ok (.iconst (-1), 1) := by decide +kernel
theorem dX12_stream_83 : decode cX12_stream 83 = .ok (.iastore, 1) := by decide +kernel
theorem dX12_stream_84 : decode cX12_stream 84 = .ok (.iinc 1 1, 3) := by decide +kernel
theorem dX12_stream_87 : decode cX12_stream 87 = .ok (.goto (-22), 3) := by decide +kernel
theorem dX12_stream_90 : decode cX12_stream 90 = .ok (.aload_n 0, 1) := by decide +kernel
theorem dX12_stream_91 : decode cX12_stream 91 = .ok (.iconst 0, 1) := by decide +kernel
theorem dX12_stream_92 : decode cX12_stream 92 = .ok (.putfield 97, 3) := by decide +kernel
theorem dX12_stream_95 : decode cX12_stream 95 = .ok (.iconst 1, 1) := by decide +kernel
theorem dX12_stream_96 : decode cX12_stream 96 = .ok (.istore_n 1, 1) := by decide +kernel
theorem dX12_stream_97 : decode cX12_stream 97 = .ok (.aload_n 0, 1) := by decide +kernel
theorem dX12_stream_98 : decode cX12_stream 98 = .ok (.invokevirtual 249, 3) := by decide +kernel
theorem dX12_stream_101 : decode cX12_stream 101 = .ok (.aload_n 0, 1) := by decide +kernel
theorem dX12_stream_102 : decode cX12_stream 102 = .ok (.invokevirtual 390, 3) := by decide +kernel
theorem dX12_stream_105 : decode cX12_stream 105 = .ok (.aload_n 0, 1) := by decide +kernel
theorem dX12_stream_106 : decode cX12_stream 106 = .ok (.iload_n 1, 1) := by decide +kernel
theorem dX12_stream_107 : decode cX12_stream 107 = .ok (.invokevirtual 393, 3) := by decide +kernel
theorem dX12_stream_110 : decode cX12_stream 110 = .ok (.aload_n 0, 1) := by decide +kernel
theorem dX12_stream_111 : decode cX12_stream 111 = .ok (.getfield 36, 3) := by decide +kernel
theorem dX12_stream_114 : decode cX12_stream 114 = .ok (.ifCond .ne 25, 3) := by decide +kernel
theorem dX12_stream_117 : decode cX12_stream 117 = .ok (.aload_n 0, 1) := by decide +kernel
theorem dX12_stream_118 : decode cX12_stream 118 = .ok (.getfield 20, 3) := by decide +kernel
theorem dX12_stream_121 : decode cX12_stream 121 = .ok (.ifCond .eq 18, 3) := by decide +kernel
theorem dX12_stream_124 : decode cX12_stream 124 = .ok (.aload_n 0, 1) := by decide +kernel
theorem dX12_stream_125 : decode cX12_stream 125 = .ok (.invokevirtual 396, 3) := by decide +kernel
theorem dX12_stream_128 : decode cX12_stream 128 = .ok (.iinc 1 1, 3) := by decide +kernel
theorem dX12_stream_131 : decode cX12_stream 131 = .ok (.aload_n 0, 1) := by decide +kernel
theorem dX12_stream_132 : decode cX12_stream 132 = .ok (.iload_n 1, 1) := by decide +kernel
theorem dX12_stream_133 : decode cX12_stream 133 = .ok (.invokevirtual 393, 3) := by decide +kernel
theorem dX12_stream_136 : decode cX12_stream 136 = .ok (.goto (-26), 3) := by decide +kernel
theorem dX12_stream_139 : decode cX12_stream 139 = .ok (.aload_n 0, 1) := by decide +kernel
theorem dX12_stream_140 : decode cX12_stream 140 = .ok (.aload_n 0, 1) := by decide +kernel
theorem dX12_stream_141 : decode cX12_stream 141 = .ok (.getfield 36, 3) := by decide +kernel
theorem dX12_stream_144 : decode cX12_stream 144 = .ok (.putfield 42, 3) := by decide +kernel
theorem dX12_stream_147 : decode cX12_stream 147 = .ok (.aload_n 0, 1) := by decide +kernel
theorem dX12_stream_148 : decode cX12_stream 148 = .ok (.aload_n 0, 1) := by decide +kernel
theorem dX12_stream_149 : decode cX12_stream 149 = .ok (.getfield 39, 3) := by decide +kernel
theorem dX12_stream_152 : decode cX12_stream 152 = .ok (.putfield 45, 3) := by decide +kernel
theorem dX12_stream_155 : decode cX12_stream 155 = .ok (.aload_n 0, 1) := by decide +kernel
theorem dX12_stream_156 : decode cX12_stream 156 = .ok (.getfield 36, 3) := by decide +kernel
theorem dX12_stream_159 : decode cX12_stream 159 = .ok (.ifCond .le 9, 3) := by decide +kernel
theorem dX12_stream_162 : decode cX12_stream 162 = .ok (.aload_n 0, 1) := by decide +kernel
theorem dX12_stream_163 : decode cX12_stream 163 = .ok (.iconst 1, 1) := by decide +kernel
theorem dX12_stream_164 : decode cX12_stream 164 = .ok (.invokevirtual 224, 3) := by decide +kernel
theorem dX12_stream_167 : decode cX12_stream 167 = .ok (.ireturn, 1) := by decide +kernel
theorem dX12_stream_168 : decode cX12_stream 168 = .ok (.aload_n 0, 1) := by decide +kernel
theorem dX12_stream_169 : decode cX12_stream 169 = .ok (.aload_n 0, 1) := by decide +kernel
theorem dX12_stream_170 : decode cX12_stream 170 = .ok (.getfield 100, 3) := by decide +kernel
theorem dX12_stream_173 : decode cX12_stream 173 = .ok (.putfield 51, 3) := by decide +kernel
theorem dX12_stream_176 : decode cX12_stream 176 = .ok (.aload_n 0, 1) := by decide +kernel
theorem dX12_stream_177 : decode cX12_stream 177 = .ok (.iconst 1, 1) := by decide +kernel
theorem dX12_stream_178 : decode cX12_stream 178 = .ok (.putfield 138, 3) := by decide +kernel
theorem dX12_stream_181 : decode cX12_stream 181 = .ok (.aload_n 0, 1) := by decide +kernel
theorem dX12_stream_182 : decode cX12_stream 182 = .ok (.invokevirtual 399, 3) := by decide +kernel
theorem dX12_stream_185 : decode cX12_stream 185 = .ok (.iload_n 1, 1) := by decide +kernel
theorem dX12_stream_186 : decode cX12_stream 186 = .ok (.ireturn, 1) := by decide +kernel
theorem dX12_fault_0 : decode cX12_fault 0 = .ok (.iload_n 1, 1) := by decide +kernel
theorem dX12_fault_1 : decode cX12_fault 1 = .ok (.ifCond .ne 10, 3) := by decide +kernel
theorem dX12_fault_4 : decode cX12_fault 4 = .ok (.aload_n 0, 1) := by decide +kernel
theorem dX12_fault_5 : decode cX12_fault 5 = .ok (.getfield 42, 3) := by decide +kernel
theorem dX12_fault_8 : decode cX12_fault 8 = .ok (.goto 16, 3) := by decide +kernel
theorem dX12_fault_11 : decode cX12_fault 11 = .ok (.iload_n 1, 1) := by decide +kernel
theorem dX12_fault_12 : decode cX12_fault 12 = .ok (.iconst 1, 1) := by decide +kernel
theorem dX12_fault_13 : decode cX12_fault 13 = .ok (.if_icmp .ne 10, 3) := by decide +kernel
theorem dX12_fault_16 : decode cX12_fault 16 = .ok (.aload_n 0, 1) := by decide +kernel
theorem dX12_fault_17 : decode cX12_fault 17 = .ok (.getfield 45, 3) := by decide +kernel
theorem dX12_fault_20 : decode cX12_fault 20 = .ok (.goto 4, 3) := by decide +kernel
theorem dX12_fault_23 : decode cX12_fault 23 = .ok (.iconst (-1), 1) := by decide +kernel
theorem dX12_fault_24 : decode cX12_fault 24 = .ok (.ireturn, 1) := by decide +kernel
theorem dX12_refuses_0 : decode cX12_refuses 0 = .ok (.aload_n 0, 1) := by decide +kernel
theorem dX12_refuses_1 : decode cX12_refuses 1 = .ok (.getfield 141, 3) := by decide +kernel
theorem dX12_refuses_4 : decode cX12_refuses 4 = .ok (.iload_n 1, 1) := by decide +kernel
theorem dX12_refuses_5 : decode cX12_refuses 5 = .ok (.dup2, 1) := by decide +kernel
theorem dX12_refuses_6 : decode cX12_refuses 6 = .ok (.iaload, 1) := by decide +kernel
theorem dX12_refuses_7 : decode cX12_refuses 7 = .ok (.iconst 1, 1) := by decide +kernel
theorem dX12_refuses_8 : decode cX12_refuses 8 = .ok (.iadd, 1) := by decide +kernel
theorem dX12_refuses_9 : decode cX12_refuses 9 = .ok (.iastore, 1) := by decide +kernel
theorem dX12_refuses_10 : decode cX12_refuses 10 = .ok (.iconst (-1), 1) := by decide +kernel
theorem dX12_refuses_11 : decode cX12_refuses 11 = .ok (.ireturn, 1) := by decide +kernel
theorem dX12_status_0 : decode cX12_status 0 = .ok (.iload_n 1, 1) := by decide +kernel
theorem dX12_status_1 : decode cX12_status 1 = .ok (.iconst 0, 1) := by decide +kernel
theorem dX12_status_2 : decode cX12_status 2 = .ok (.iconst 5, 1) := by decide +kernel
theorem dX12_status_3 : decode cX12_status 3 = .ok (.invokestatic 310, 3) := by decide +kernel
theorem dX12_status_6 : decode cX12_status 6 = .ok (.ifCond .eq 12, 3) := by decide +kernel
theorem dX12_status_9 : decode cX12_status 9 = .ok (.aload_n 0, 1) := by decide +kernel
theorem dX12_status_10 : decode cX12_status 10 = .ok (.getfield 141, 3) := by decide +kernel
theorem dX12_status_13 : decode cX12_status 13 = .ok (.iload_n 1, 1) := by decide +kernel
theorem dX12_status_14 : decode cX12_status 14 = .ok (.iaload, 1) := by decide +kernel
theorem dX12_status_15 : decode cX12_status 15 = .ok (.goto 4, 3) := by decide +kernel
theorem dX12_status_18 : decode cX12_status 18 = .ok (.iconst (-1), 1) := by decide +kernel
theorem dX12_status_19 : decode cX12_status 19 = .ok (.ireturn, 1) := by decide +kernel
theorem dX12_n_0 : decode cX12_n 0 = .ok (.aload_n 0, 1) := by decide +kernel
theorem dX12_n_1 : decode cX12_n 1 = .ok (.getfield 144, 3) := by decide +kernel
theorem dX12_n_4 : decode cX12_n 4 = .ok (.bipush 40, 2) := by decide +kernel
theorem dX12_n_6 : decode cX12_n 6 = .ok (.iload_n 1, 1) := by decide +kernel
theorem dX12_n_7 : decode cX12_n 7 = .ok (.imul, 1) := by decide +kernel
theorem dX12_n_8 : decode cX12_n 8 = .ok (.iload_n 2, 1) := by decide +kernel
theorem dX12_n_9 : decode cX12_n 9 = .ok (.iadd, 1) := by decide +kernel
theorem dX12_n_10 : decode cX12_n 10 = .ok (.iaload, 1) := by decide +kernel
theorem dX12_n_11 : decode cX12_n 11 = .ok (.ireturn, 1) := by decide +kernel
theorem dX12_sets_0 : decode cX12_sets 0 = .ok (.aload_n 0, 1) := by decide +kernel
theorem dX12_sets_1 : decode cX12_sets 1 = .ok (.getfield 144, 3) := by decide +kernel
theorem dX12_sets_4 : decode cX12_sets 4 = .ok (.bipush 40, 2) := by decide +kernel
theorem dX12_sets_6 : decode cX12_sets 6 = .ok (.iload_n 1, 1) := by decide +kernel
theorem dX12_sets_7 : decode cX12_sets 7 = .ok (.imul, 1) := by decide +kernel
theorem dX12_sets_8 : decode cX12_sets 8 = .ok (.iload_n 2, 1) := by decide +kernel
theorem dX12_sets_9 : decode cX12_sets 9 = .ok (.iadd, 1) := by decide +kernel
theorem dX12_sets_10 : decode cX12_sets 10 = .ok (.iload_n 3, 1) := by decide +kernel
theorem dX12_sets_11 : decode cX12_sets 11 = .ok (.iastore, 1) := by decide +kernel
theorem dX12_sets_12 : decode cX12_sets 12 = .ok (.return_, 1) := by decide +kernel
theorem dX12_p_0 : decode cX12_p 0 = .ok (.aload_n 0, 1) := by decide +kernel
theorem dX12_p_1 : decode cX12_p 1 = .ok (.getfield 144, 3) := by decide +kernel
theorem dX12_p_4 : decode cX12_p 4 = .ok (.bipush 40, 2) := by decide +kernel
theorem dX12_p_6 : decode cX12_p 6 = .ok (.iload_n 1, 1) := by decide +kernel
theorem dX12_p_7 : decode cX12_p 7 = .ok (.imul, 1) := by decide +kernel
theorem dX12_p_8 : decode cX12_p 8 = .ok (.bipush 14, 2) := by decide +kernel
theorem dX12_p_10 : decode cX12_p 10 = .ok (.iadd, 1) := by decide +kernel
theorem dX12_p_11 : decode cX12_p 11 = .ok (.bipush 6, 2) := by decide +kernel
theorem dX12_p_13 : decode cX12_p 13 = .ok (.iload_n 2, 1) := by decide +kernel
theorem dX12_p_14 : decode cX12_p 14 = .ok (.imul, 1) := by decide +kernel
theorem dX12_p_15 : decode cX12_p 15 = .ok (.iadd, 1) := by decide +kernel
theorem dX12_p_16 : decode cX12_p 16 = .ok (.iload_n 3, 1) := by decide +kernel
theorem dX12_p_17 : decode cX12_p 17 = .ok (.iadd, 1) := by decide +kernel
theorem dX12_p_18 : decode cX12_p 18 = .ok (.iaload, 1) := by decide +kernel
theorem dX12_p_19 : decode cX12_p 19 = .ok (.ireturn, 1) := by decide +kernel
theorem dX12_setsPath_0 : decode cX12_setsPath 0 = .ok (.aload_n 0, 1) := by decide +kernel
theorem dX12_setsPath_1 : decode cX12_setsPath 1 = .ok (.getfield 144, 3) := by decide +kernel
theorem dX12_setsPath_4 : decode cX12_setsPath 4 = .ok (.bipush 40, 2) := by decide +kernel
theorem dX12_setsPath_6 : decode cX12_setsPath 6 = .ok (.iload_n 1, 1) := by decide +kernel
theorem dX12_setsPath_7 : decode cX12_setsPath 7 = .ok (.imul, 1) := by decide +kernel
theorem dX12_setsPath_8 : decode cX12_setsPath 8 = .ok (.bipush 14, 2) := by decide +kernel
theorem dX12_setsPath_10 : decode cX12_setsPath 10 = .ok (.iadd, 1) := by decide +kernel
theorem dX12_setsPath_11 : decode cX12_setsPath 11 = .ok (.bipush 6, 2) := by decide +kernel
theorem dX12_setsPath_13 : decode cX12_setsPath 13 = .ok (.iload_n 2, 1) := by decide +kernel
theorem dX12_setsPath_14 : decode cX12_setsPath 14 = .ok (.imul, 1) := by decide +kernel
theorem dX12_setsPath_15 : decode cX12_setsPath 15 = .ok (.iadd, 1) := by decide +kernel
theorem dX12_setsPath_16 : decode cX12_setsPath 16 = .ok (.iload_n 3, 1) := by decide +kernel
theorem dX12_setsPath_17 : decode cX12_setsPath 17 = .ok (.iadd, 1) := by decide +kernel
theorem dX12_setsPath_18 : decode cX12_setsPath 18 = .ok (.iload 4, 2) := by decide +kernel
theorem dX12_setsPath_20 : decode cX12_setsPath 20 = .ok (.iastore, 1) := by decide +kernel
theorem dX12_setsPath_21 : decode cX12_setsPath 21 = .ok (.return_, 1) := by decide +kernel
theorem dX12_s_0 : decode cX12_s 0 = .ok (.aload_n 0, 1) := by decide +kernel
theorem dX12_s_1 : decode cX12_s 1 = .ok (.getfield 148, 3) := by decide +kernel
theorem dX12_s_4 : decode cX12_s 4 = .ok (.bipush 8, 2) := by decide +kernel
theorem dX12_s_6 : decode cX12_s 6 = .ok (.sipush 480, 3) := by decide +kernel
theorem dX12_s_9 : decode cX12_s 9 = .ok (.iload_n 1, 1) := by decide +kernel
theorem dX12_s_10 : decode cX12_s 10 = .ok (.imul, 1) := by decide +kernel
theorem dX12_s_11 : decode cX12_s 11 = .ok (.iload_n 2, 1) := by decide +kernel
theorem dX12_s_12 : decode cX12_s 12 = .ok (.iadd, 1) := by decide +kernel
theorem dX12_s_13 : decode cX12_s 13 = .ok (.imul, 1) := by decide +kernel
theorem dX12_s_14 : decode cX12_s 14 = .ok (.iload_n 3, 1) := by decide +kernel
theorem dX12_s_15 : decode cX12_s 15 = .ok (.iadd, 1) := by decide +kernel
theorem dX12_s_16 : decode cX12_s 16 = .ok (.iaload, 1) := by decide +kernel
theorem dX12_s_17 : decode cX12_s 17 = .ok (.ireturn, 1) := by decide +kernel
theorem dX12_setsSegment_0 : decode cX12_setsSegment 0 = .ok (.aload_n 0, 1) := by decide +kernel
theorem dX12_setsSegment_1 : decode cX12_setsSegment 1 = .ok (.getfield 148, 3) := by decide +kernel
theorem dX12_setsSegment_4 : decode cX12_setsSegment 4 = .ok (.bipush 8, 2) := by decide +kernel
theorem dX12_setsSegment_6 : decode cX12_setsSegment 6 = .ok (.sipush 480, 3) := by decide +kernel
theorem dX12_setsSegment_9 : decode cX12_setsSegment 9 = .ok (.iload_n 1, 1) := by decide +kernel
theorem dX12_setsSegment_10 : decode cX12_setsSegment 10 = .ok (.imul, 1) := by decide +kernel
theorem dX12_setsSegment_11 : decode cX12_setsSegment 11 = .ok (.iload_n 2, 1) := by decide +kernel
theorem dX12_setsSegment_12 : decode cX12_setsSegment 12 = .ok (.iadd, 1) := by decide +kernel
theorem dX12_setsSegment_13 : decode cX12_setsSegment 13 = .ok (.imul, 1) := by decide +kernel
theorem dX12_setsSegment_14 : decode cX12_setsSegment 14 = .ok (.iload_n 3, 1) := by decide +kernel
theorem dX12_setsSegment_15 : decode cX12_setsSegment 15 = .ok (.iadd, 1) := by decide +kernel
theorem dX12_setsSegment_16 : decode cX12_setsSegment 16 = .ok (.iload 4, 2) := by decide +kernel
theorem dX12_setsSegment_18 : decode cX12_setsSegment 18 = .ok (.iastore, 1) := by decide +kernel
theorem dX12_setsSegment_19 : decode cX12_setsSegment 19 = .ok (.return_, 1) := by decide +kernel
theorem dX12_a_0 : decode cX12_a 0 = .ok (.aload_n 0, 1) := by decide +kernel
theorem dX12_a_1 : decode cX12_a 1 = .ok (.getfield 155, 3) := by decide +kernel
theorem dX12_a_4 : decode cX12_a 4 = .ok (.iconst 5, 1) := by decide +kernel
theorem dX12_a_5 : decode cX12_a 5 = .ok (.sipush 520, 3) := by decide +kernel
theorem dX12_a_8 : decode cX12_a 8 = .ok (.iload_n 1, 1) := by decide +kernel
theorem dX12_a_9 : decode cX12_a 9 = .ok (.imul, 1) := by decide +kernel
theorem dX12_a_10 : decode cX12_a 10 = .ok (.iload_n 2, 1) := by decide +kernel
theorem dX12_a_11 : decode cX12_a 11 = .ok (.iadd, 1) := by decide +kernel
theorem dX12_a_12 : decode cX12_a 12 = .ok (.imul, 1) := by decide +kernel
theorem dX12_a_13 : decode cX12_a 13 = .ok (.iload_n 3, 1) := by decide +kernel
theorem dX12_a_14 : decode cX12_a 14 = .ok (.iadd, 1) := by decide +kernel
theorem dX12_a_15 : decode cX12_a 15 = .ok (.iaload, 1) := by decide +kernel
theorem dX12_a_16 : decode cX12_a 16 = .ok (.ireturn, 1) := by decide +kernel
theorem dX12_copies_0 : decode cX12_copies 0 = .ok (.iconst 0, 1) := by decide +kernel
theorem dX12_copies_1 : decode cX12_copies 1 = .ok (.istore_n 3, 1) := by decide +kernel
theorem dX12_copies_2 : decode cX12_copies 2 = .ok (.iload_n 3, 1) := by decide +kernel
theorem dX12_copies_3 : decode cX12_copies 3 = .ok (.bipush 40, 2) := by decide +kernel
theorem dX12_copies_5 : decode cX12_copies 5 = .ok (.if_icmp .ge 31, 3) := by decide +kernel
theorem dX12_copies_8 : decode cX12_copies 8 = .ok (.aload_n 0, 1) := by decide +kernel
theorem dX12_copies_9 : decode cX12_copies 9 = .ok (.getfield 144, 3) := by decide +kernel
theorem dX12_copies_12 : decode cX12_copies 12 = .ok (.bipush 40, 2) := by decide +kernel
theorem dX12_copies_14 : decode cX12_copies 14 = .ok (.iload_n 1, 1) := by decide +kernel
theorem dX12_copies_15 : decode cX12_copies 15 = .ok (.imul, 1) := by decide +kernel
theorem dX12_copies_16 : decode cX12_copies 16 = .ok (.iload_n 3, 1) := by decide +kernel
theorem dX12_copies_17 : decode cX12_copies 17 = .ok (.iadd, 1) := by decide +kernel
theorem dX12_copies_18 : decode cX12_copies 18 = .ok (.aload_n 0, 1) := by decide +kernel
theorem dX12_copies_19 : decode cX12_copies 19 = .ok (.getfield 144, 3) := by decide +kernel
theorem dX12_copies_22 : decode cX12_copies 22 = .ok (.bipush 40, 2) := by decide +kernel
theorem dX12_copies_24 : decode cX12_copies 24 = .ok (.iload_n 2, 1) := by decide +kernel
theorem dX12_copies_25 : decode cX12_copies 25 = .ok (.imul, 1) := by decide +kernel
theorem dX12_copies_26 : decode cX12_copies 26 = .ok (.iload_n 3, 1) := by decide +kernel
theorem dX12_copies_27 : decode cX12_copies 27 = .ok (.iadd, 1) := by decide +kernel
theorem dX12_copies_28 : decode cX12_copies 28 = .ok (.iaload, 1) := by decide +kernel
theorem dX12_copies_29 : decode cX12_copies 29 = .ok (.iastore, 1) := by decide +kernel
theorem dX12_copies_30 : decode cX12_copies 30 = .ok (.iinc 3 1, 3) := by decide +kernel
theorem dX12_copies_33 : decode cX12_copies 33 = .ok (.goto (-31), 3) := by decide +kernel
theorem dX12_copies_36 : decode cX12_copies 36 = .ok (.iconst 0, 1) := by decide +kernel
theorem dX12_copies_37 : decode cX12_copies 37 = .ok (.istore_n 3, 1) := by decide +kernel
theorem dX12_copies_38 : decode cX12_copies 38 = .ok (.iload_n 3, 1) := by decide +kernel
theorem dX12_copies_39 : decode cX12_copies 39 = .ok (.bipush 8, 2) := by decide +kernel
theorem dX12_copies_41 : decode cX12_copies 41 = .ok (.aload_n 0, 1) := by decide +kernel
theorem dX12_copies_42 : decode cX12_copies 42 = .ok (.iload_n 2, 1) := by decide +kernel
theorem dX12_copies_43 : decode cX12_copies 43 = .ok (.bipush 6, 2) := by decide +kernel
theorem dX12_copies_45 : decode cX12_copies 45 = .ok (.invokevirtual 402, 3) := by decide +kernel
theorem dX12_copies_48 : decode cX12_copies 48 = .ok (.imul, 1) := by decide +kernel
theorem dX12_copies_49 : decode cX12_copies 49 = .ok (.if_icmp .ge 33, 3) := by decide +kernel
theorem dX12_copies_52 : decode cX12_copies 52 = .ok (.aload_n 0, 1) := by decide +kernel
theorem dX12_copies_53 : decode cX12_copies 53 = .ok (.getfield 148, 3) := by decide +kernel
theorem dX12_copies_56 : decode cX12_copies 56 = .ok (.sipush 3840, 3) := by decide +kernel
theorem dX12_copies_59 : decode cX12_copies 59 = .ok (.iload_n 1, 1) := by decide +kernel
theorem dX12_copies_60 : decode cX12_copies 60 = .ok (.imul, 1) := by decide +kernel
theorem dX12_copies_61 : decode cX12_copies 61 = .ok (.iload_n 3, 1) := by decide +kernel
theorem dX12_copies_62 : decode cX12_copies 62 = .ok (.iadd, 1) := by decide +kernel
theorem dX12_copies_63 : decode cX12_copies 63 = .ok (.aload_n 0, 1) := by decide +kernel
theorem dX12_copies_64 : decode cX12_copies 64 = .ok (.getfield 148, 3) := by decide +kernel
theorem dX12_copies_67 : decode cX12_copies 67 = .ok (.sipush 3840, 3) := by decide +kernel
theorem dX12_copies_70 : decode cX12_copies 70 = .ok (.iload_n 2, 1) := by decide +kernel
theorem dX12_copies_71 : decode cX12_copies 71 = .ok (.imul, 1) := by decide +kernel
theorem dX12_copies_72 : decode cX12_copies 72 = .ok (.iload_n 3, 1) := by decide +kernel
theorem dX12_copies_73 : decode cX12_copies 73 = .ok (.iadd, 1) := by decide +kernel
theorem dX12_copies_74 : decode cX12_copies 74 = .ok (.iaload, 1) := by decide +kernel
theorem dX12_copies_75 : decode cX12_copies 75 = .ok (.iastore, 1) := by decide +kernel
theorem dX12_copies_76 : decode cX12_copies 76 = .ok (.iinc 3 1, 3) := by decide +kernel
theorem dX12_copies_79 : decode cX12_copies 79 = .ok (.goto (-41), 3) := by decide +kernel
theorem dX12_copies_82 : decode cX12_copies 82 = .ok (.iconst 0, 1) := by decide +kernel
theorem dX12_copies_83 : decode cX12_copies 83 = .ok (.istore_n 3, 1) := by decide +kernel
theorem dX12_copies_84 : decode cX12_copies 84 = .ok (.iload_n 3, 1) := by decide +kernel
theorem dX12_copies_85 : decode cX12_copies 85 = .ok (.iconst 2, 1) := by decide +kernel
theorem dX12_copies_86 : decode cX12_copies 86 = .ok (.aload_n 0, 1) := by decide +kernel
theorem dX12_copies_87 : decode cX12_copies 87 = .ok (.iload_n 2, 1) := by decide +kernel
theorem dX12_copies_88 : decode cX12_copies 88 = .ok (.bipush 7, 2) := by decide +kernel
theorem dX12_copies_90 : decode cX12_copies 90 = .ok (.invokevirtual 402, 3) := by decide +kernel
theorem dX12_copies_93 : decode cX12_copies 93 = .ok (.imul, 1) := by decide +kernel
theorem dX12_copies_94 : decode cX12_copies 94 = .ok (.if_icmp .ge 33, 3) := by decide +kernel
theorem dX12_copies_97 : decode cX12_copies 97 = .ok (.aload_n 0, 1) := by decide +kernel
theorem dX12_copies_98 : decode cX12_copies 98 = .ok (.getfield 151, 3) := by decide +kernel
theorem dX12_copies_101 : decode cX12_copies 101 = .ok (.sipush 960, 3) := by decide +kernel
theorem dX12_copies_104 : decode cX12_copies 104 = .ok (.iload_n 1, 1) := by decide +kernel
theorem dX12_copies_105 : decode cX12_copies 105 = .ok (.imul, 1) := by decide +kernel
theorem dX12_copies_106 : decode cX12_copies 106 = .ok (.iload_n 3, 1) := by decide +kernel
theorem dX12_copies_107 : decode cX12_copies 107 = .ok (.iadd, 1) := by decide +kernel
theorem dX12_copies_108 : decode cX12_copies 108 = .ok (.aload_n 0, 1) := by decide +kernel
theorem dX12_copies_109 : decode cX12_copies 109 = .ok (.getfield 151, 3) := by decide +kernel
theorem dX12_copies_112 : decode cX12_copies 112 = .ok (.sipush 960, 3) := by decide +kernel
theorem dX12_copies_115 : decode cX12_copies 115 = .ok (.iload_n 2, 1) := by decide +kernel
theorem dX12_copies_116 : decode cX12_copies 116 = .ok (.imul, 1) := by decide +kernel
theorem dX12_copies_117 : decode cX12_copies 117 = .ok (.iload_n 3, 1) := by decide +kernel
theorem dX12_copies_118 : decode cX12_copies 118 = .ok (.iadd, 1) := by decide +kernel
theorem dX12_copies_119 : decode cX12_copies 119 = .ok (.iaload, 1) := by decide +kernel
theorem dX12_copies_120 : decode cX12_copies 120 = .ok (.iastore, 1) := by decide +kernel
theorem dX12_copies_121 : decode cX12_copies 121 = .ok (.iinc 3 1, 3) := by decide +kernel
theorem dX12_copies_124 : decode cX12_copies 124 = .ok (.goto (-40), 3) := by decide +kernel
theorem dX12_copies_127 : decode cX12_copies 127 = .ok (.iconst 0, 1) := by decide +kernel
theorem dX12_copies_128 : decode cX12_copies 128 = .ok (.istore_n 3, 1) := by decide +kernel
theorem dX12_copies_129 : decode cX12_copies 129 = .ok (.iload_n 3, 1) := by decide +kernel
theorem dX12_copies_130 : decode cX12_copies 130 = .ok (.iconst 5, 1) := by decide +kernel
theorem dX12_copies_131 : decode cX12_copies 131 = .ok (.aload_n 0, 1) := by decide +kernel
theorem dX12_copies_132 : decode cX12_copies 132 = .ok (.iload_n 2, 1) := by decide +kernel
theorem dX12_copies_133 : decode cX12_copies 133 = .ok (.bipush 8, 2) := by decide +kernel
theorem dX12_copies_135 : decode cX12_copies 135 = .ok (.invokevirtual 402, 3) := by decide +kernel
theorem dX12_copies_138 : decode cX12_copies 138 = .ok (.imul, 1) := by decide +kernel
theorem dX12_copies_139 : decode cX12_copies 139 = .ok (.if_icmp .ge 33, 3) := by decide +kernel
theorem dX12_copies_142 : decode cX12_copies 142 = .ok (.aload_n 0, 1) := by decide +kernel
theorem dX12_copies_143 : decode cX12_copies 143 = .ok (.getfield 155, 3) := by decide +kernel
theorem dX12_copies_146 : decode cX12_copies 146 = .ok (.sipush 2600, 3) := by decide +kernel
theorem dX12_copies_149 : decode cX12_copies 149 = .ok (.iload_n 1, 1) := by decide +kernel
theorem dX12_copies_150 : decode cX12_copies 150 = .ok (.imul, 1) := by decide +kernel
theorem dX12_copies_151 : decode cX12_copies 151 = .ok (.iload_n 3, 1) := by decide +kernel
theorem dX12_copies_152 : decode cX12_copies 152 = .ok (.iadd, 1) := by decide +kernel
theorem dX12_copies_153 : decode cX12_copies 153 = .ok (.aload_n 0, 1) := by decide +kernel
theorem dX12_copies_154 : decode cX12_copies 154 = .ok (.getfield 155, 3) := by decide +kernel
theorem dX12_copies_157 : decode cX12_copies 157 = .ok (.sipush 2600, 3) := by decide +kernel
theorem dX12_copies_160 : decode cX12_copies 160 = .ok (.iload_n 2, 1) := by decide +kernel
theorem dX12_copies_161 : decode cX12_copies 161 = .ok (.imul, 1) := by decide +kernel
theorem dX12_copies_162 : decode cX12_copies 162 = .ok (.iload_n 3, 1) := by decide +kernel
theorem dX12_copies_163 : decode cX12_copies 163 = .ok (.iadd, 1) := by decide +kernel
theorem dX12_copies_164 : decode cX12_copies 164 = .ok (.iaload, 1) := by decide +kernel
theorem dX12_copies_165 : decode cX12_copies 165 = .ok (.iastore, 1) := by decide +kernel
theorem dX12_copies_166 : decode cX12_copies 166 = .ok (.iinc 3 1, 3) := by decide +kernel
theorem dX12_copies_169 : decode cX12_copies 169 = .ok (.goto (-40), 3) := by decide +kernel
theorem dX12_copies_172 : decode cX12_copies 172 = .ok (.iconst 0, 1) := by decide +kernel
theorem dX12_copies_173 : decode cX12_copies 173 = .ok (.istore_n 3, 1) := by decide +kernel
theorem dX12_copies_174 : decode cX12_copies 174 = .ok (.iload_n 3, 1) := by decide +kernel
theorem dX12_copies_175 : decode cX12_copies 175 = .ok (.sipush 200, 3) := by decide +kernel
theorem dX12_copies_178 : decode cX12_copies 178 = .ok (.if_icmp .ge 33, 3) := by decide +kernel
theorem dX12_copies_181 : decode cX12_copies 181 = .ok (.aload_n 0, 1) := by decide +kernel
theorem dX12_copies_182 : decode cX12_copies 182 = .ok (.getfield 158, 3) := by decide +kernel
theorem dX12_copies_185 : decode cX12_copies 185 = .ok (.sipush 200, 3) := by decide +kernel
theorem dX12_copies_188 : decode cX12_copies 188 = .ok (.iload_n 1, 1) := by decide +kernel
theorem dX12_copies_189 : decode cX12_copies 189 = .ok (.imul, 1) := by decide +kernel
theorem dX12_copies_190 : decode cX12_copies 190 = .ok (.iload_n 3, 1) := by decide +kernel
theorem dX12_copies_191 : decode cX12_copies 191 = .ok (.iadd, 1) := by decide +kernel
theorem dX12_copies_192 : decode cX12_copies 192 = .ok (.aload_n 0, 1) := by decide +kernel
theorem dX12_copies_193 : decode cX12_copies 193 = .ok (.getfield 158, 3) := by decide +kernel
theorem dX12_copies_196 : decode cX12_copies 196 = .ok (.sipush 200, 3) := by decide +kernel
theorem dX12_copies_199 : decode cX12_copies 199 = .ok (.iload_n 2, 1) := by decide +kernel
theorem dX12_copies_200 : decode cX12_copies 200 = .ok (.imul, 1) := by decide +kernel
theorem dX12_copies_201 : decode cX12_copies 201 = .ok (.iload_n 3, 1) := by decide +kernel
theorem dX12_copies_202 : decode cX12_copies 202 = .ok (.iadd, 1) := by decide +kernel
theorem dX12_copies_203 : decode cX12_copies 203 = .ok (.iaload, 1) := by decide +kernel
theorem dX12_copies_204 : decode cX12_copies 204 = .ok (.iastore, 1) := by decide +kernel
theorem dX12_copies_205 : decode cX12_copies 205 = .ok (.iinc 3 1, 3) := by decide +kernel
theorem dX12_copies_208 : decode cX12_copies 208 = .ok (.goto (-34), 3) := by decide +kernel
theorem dX12_copies_211 : decode cX12_copies 211 = .ok (.iconst 0, 1) := by decide +kernel
theorem dX12_copies_212 : decode cX12_copies 212 = .ok (.istore_n 3, 1) := by decide +kernel
theorem dX12_copies_213 : decode cX12_copies 213 = .ok (.iload_n 3, 1) := by decide +kernel
theorem dX12_copies_214 : decode cX12_copies 214 = .ok (.iconst 3, 1) := by decide +kernel
theorem dX12_copies_215 : decode cX12_copies 215 = .ok (.aload_n 0, 1) := by decide +kernel
theorem dX12_copies_216 : decode cX12_copies 216 = .ok (.iload_n 2, 1) := by decide +kernel
theorem dX12_copies_217 : decode cX12_copies 217 = .ok (.bipush 9, 2) := by decide +kernel
theorem dX12_copies_219 : decode cX12_copies 219 = .ok (.invokevirtual 402, 3) := by decide +kernel
theorem dX12_copies_222 : decode cX12_copies 222 = .ok (.imul, 1) := by decide +kernel
theorem dX12_copies_223 : decode cX12_copies 223 = .ok (.if_icmp .ge 31, 3) := by decide +kernel
theorem dX12_copies_226 : decode cX12_copies 226 = .ok (.aload_n 0, 1) := by decide +kernel
theorem dX12_copies_227 : decode cX12_copies 227 = .ok (.getfield 161, 3) := by decide +kernel
theorem dX12_copies_230 : decode cX12_copies 230 = .ok (.bipush 120, 2) := by decide +kernel
theorem dX12_copies_232 : decode cX12_copies 232 = .ok (.iload_n 1, 1) := by decide +kernel
theorem dX12_copies_233 : decode cX12_copies 233 = .ok (.imul, 1) := by decide +kernel
theorem dX12_copies_234 : decode cX12_copies 234 = .ok (.iload_n 3, 1) := by decide +kernel
theorem dX12_copies_235 : decode cX12_copies 235 = .ok (.iadd, 1) := by decide +kernel
theorem dX12_copies_236 : decode cX12_copies 236 = .ok (.aload_n 0, 1) := by decide +kernel
theorem dX12_copies_237 : decode cX12_copies 237 = .ok (.getfield 161, 3) := by decide +kernel
theorem dX12_copies_240 : decode cX12_copies 240 = .ok (.bipush 120, 2) := by decide +kernel
theorem dX12_copies_242 : decode cX12_copies 242 = .ok (.iload_n 2, 1) := by decide +kernel
theorem dX12_copies_243 : decode cX12_copies 243 = .ok (.imul, 1) := by decide +kernel
theorem dX12_copies_244 : decode cX12_copies 244 = .ok (.iload_n 3, 1) := by decide +kernel
theorem dX12_copies_245 : decode cX12_copies 245 = .ok (.iadd, 1) := by decide +kernel
theorem dX12_copies_246 : decode cX12_copies 246 = .ok (.iaload, 1) := by decide +kernel
theorem dX12_copies_247 : decode cX12_copies 247 = .ok (.iastore, 1) := by decide +kernel
theorem dX12_copies_248 : decode cX12_copies 248 = .ok (.iinc 3 1, 3) := by decide +kernel
theorem dX12_copies_251 : decode cX12_copies 251 = .ok (.goto (-38), 3) := by decide +kernel
theorem dX12_copies_254 : decode cX12_copies 254 = .ok (.return_, 1) := by decide +kernel
theorem dX12_begin_0 : decode cX12_begin 0 = .ok (.iconst 0, 1) := by decide +kernel
theorem dX12_begin_1 : decode cX12_begin 1 = .ok (.istore_n 1, 1) := by decide +kernel
theorem dX12_begin_2 : decode cX12_begin 2 = .ok (.iload_n 1, 1) := by decide +kernel
theorem dX12_begin_3 : decode cX12_begin 3 = .ok (.bipush 40, 2) := by decide +kernel
theorem dX12_begin_5 : decode cX12_begin 5 = .ok (.if_icmp .ge 16, 3) := by decide +kernel
theorem dX12_begin_8 : decode cX12_begin 8 = .ok (.aload_n 0, 1) := by decide +kernel
theorem dX12_begin_9 : decode cX12_begin 9 = .ok (.getfield 144, 3) := by decide +kernel
theorem dX12_begin_12 : decode cX12_begin 12 = .ok (.iload_n 1, 1) := by decide +kernel
theorem dX12_begin_13 : decode cX12_begin 13 = .ok (.iconst 0, 1) := by decide +kernel
theorem dX12_begin_14 : decode cX12_begin 14 = .ok (.iastore, 1) := by decide +kernel
theorem dX12_begin_15 : decode cX12_begin 15 = .ok (.iinc 1 1, 3) := by decide +kernel
theorem dX12_begin_18 : decode cX12_begin 18 = .ok (.goto (-16), 3) := by decide +kernel
theorem dX12_begin_21 : decode cX12_begin 21 = .ok (.iconst 0, 1) := by decide +kernel
theorem dX12_begin_22 : decode cX12_begin 22 = .ok (.istore_n 1, 1) := by decide +kernel
theorem dX12_begin_23 : decode cX12_begin 23 = .ok (.iload_n 1, 1) := by decide +kernel
theorem dX12_begin_24 : decode cX12_begin 24 = .ok (.sipush 200, 3) := by decide +kernel
theorem dX12_begin_27 : decode cX12_begin 27 = .ok (.if_icmp .ge 16, 3) := by decide +kernel
theorem dX12_begin_30 : decode cX12_begin 30 = .ok (.aload_n 0, 1) := by decide +kernel
theorem dX12_begin_31 : decode cX12_begin 31 = .ok (.getfield 158, 3) := by decide +kernel
theorem dX12_begin_34 : decode cX12_begin 34 = .ok (.iload_n 1, 1) := by decide +kernel
theorem dX12_begin_35 : decode cX12_begin 35 = .ok (.iconst 0, 1) := by decide +kernel
theorem dX12_begin_36 : decode cX12_begin 36 = .ok (.iastore, 1) := by decide +kernel
theorem dX12_begin_37 : decode cX12_begin 37 = .ok (.iinc 1 1, 3) := by decide +kernel
theorem dX12_begin_40 : decode cX12_begin 40 = .ok (.goto (-17), 3) := by decide +kernel
theorem dX12_begin_43 : decode cX12_begin 43 = .ok (.aload_n 0, 1) := by decide +kernel
theorem dX12_begin_44 : decode cX12_begin 44 = .ok (.iconst 0, 1) := by decide +kernel
theorem dX12_begin_45 : decode cX12_begin 45 = .ok (.iconst 3, 1) := by decide +kernel
theorem dX12_begin_46 : decode cX12_begin 46 = .ok (.aload_n 0, 1) := by decide +kernel
theorem dX12_begin_47 : decode cX12_begin 47 = .ok (.getfield 60, 3) := by decide +kernel
theorem dX12_begin_50 : decode cX12_begin 50 = .ok (.aload_n 0, 1) := by decide +kernel
theorem dX12_begin_51 : decode cX12_begin 51 = .ok (.getfield 51, 3) := by decide +kernel
theorem dX12_begin_54 : decode cX12_begin 54 = .ok (.iaload, 1) := by decide +kernel
theorem dX12_begin_55 : decode cX12_begin 55 = .ok (.invokevirtual 405, 3) := by decide +kernel
theorem dX12_begin_58 : decode cX12_begin 58 = .ok (.aload_n 0, 1) := by decide +kernel
theorem dX12_begin_59 : decode cX12_begin 59 = .ok (.aload_n 0, 1) := by decide +kernel
theorem dX12_begin_60 : decode cX12_begin 60 = .ok (.getfield 60, 3) := by decide +kernel
theorem dX12_begin_63 : decode cX12_begin 63 = .ok (.aload_n 0, 1) := by decide +kernel
theorem dX12_begin_64 : decode cX12_begin 64 = .ok (.getfield 51, 3) := by decide +kernel
theorem dX12_begin_67 : decode cX12_begin 67 = .ok (.iaload, 1) := by decide +kernel
theorem dX12_begin_68 : decode cX12_begin 68 = .ok (.putfield 173, 3) := by decide +kernel
theorem dX12_begin_71 : decode cX12_begin 71 = .ok (.iconst 0, 1) := by decide +kernel
theorem dX12_begin_72 : decode cX12_begin 72 = .ok (.istore_n 1, 1) := by decide +kernel
theorem dX12_begin_73 : decode cX12_begin 73 = .ok (.iload_n 1, 1) := by decide +kernel
theorem dX12_begin_74 : decode cX12_begin 74 = .ok (.iconst 4, 1) := by decide +kernel
theorem dX12_begin_75 : decode cX12_begin 75 = .ok (.if_icmp .ge 28, 3) := by decide +kernel
theorem dX12_begin_78 : decode cX12_begin 78 = .ok (.aload_n 0, 1) := by decide +kernel
theorem dX12_begin_79 : decode cX12_begin 79 = .ok (.getfield 176, 3) := by decide +kernel
theorem dX12_begin_82 : decode cX12_begin 82 = .ok (.iload_n 1, 1) := by decide +kernel
theorem dX12_begin_83 : decode cX12_begin 83 = .ok (.aload_n 0, 1) := by decide +kernel
theorem dX12_begin_84 : decode cX12_begin 84 = .ok (.getfield 69, 3) := by decide +kernel
theorem dX12_begin_87 : decode cX12_begin 87 = .ok (.iconst 4, 1) := by decide +kernel
theorem dX12_begin_88 : decode cX12_begin 88 = .ok (.aload_n 0, 1) := by decide +kernel
theorem dX12_begin_89 : decode cX12_begin 89 = .ok (.getfield 51, 3) := by decide +kernel
theorem dX12_begin_92 : decode cX12_begin 92 = .ok (.imul, 1) := by decide +kernel
theorem dX12_begin_93 : decode cX12_begin 93 = .ok (.iload_n 1, 1) := by decide +kernel
theorem dX12_begin_94 : decode cX12_begin 94 = .ok (.iadd, 1) := by decide +kernel
theorem dX12_begin_95 : decode cX12_begin 95 = .ok (.iaload, 1) := by decide +kernel
theorem dX12_begin_96 : decode cX12_begin 96 = .ok (.iastore, 1) := by decide +kernel
theorem dX12_begin_97 : decode cX12_begin 97 = .ok (.iinc 1 1, 3) := by decide +kernel
theorem dX12_begin_100 : decode cX12_begin 100 = .ok (.goto (-27), 3) := by decide +kernel
theorem dX12_begin_103 : decode cX12_begin 103 = .ok (.aload_n 0, 1) := by decide +kernel
theorem dX12_begin_104 : decode cX12_begin 104 = .ok (.getfield 66, 3) := by decide +kernel
theorem dX12_begin_107 : decode cX12_begin 107 = .ok (.aload_n 0, 1) := by decide +kernel
theorem dX12_begin_108 : decode cX12_begin 108 = .ok (.getfield 51, 3) := by decide +kernel
theorem dX12_begin_111 : decode cX12_begin 111 = .ok (.iaload, 1) := by decide +kernel
theorem dX12_begin_112 : decode cX12_begin 112 = .ok (.ifCond .le 9, 3) := by decide +kernel
theorem dX12_begin_115 : decode cX12_begin 115 = .ok (.aload_n 0, 1) := by decide +kernel
theorem dX12_begin_116 : decode cX12_begin 116 = .ok (.iconst 0, 1) := by decide +kernel
theorem dX12_begin_117 : decode cX12_begin 117 = .ok (.iconst 0, 1) := by decide +kernel
theorem dX12_begin_118 : decode cX12_begin 118 = .ok (.invokevirtual 409, 3) := by decide +kernel
theorem dX12_begin_121 : decode cX12_begin 121 = .ok (.aload_n 0, 1) := by decide +kernel
theorem dX12_begin_122 : decode cX12_begin 122 = .ok (.iconst 0, 1) := by decide +kernel
theorem dX12_begin_123 : decode cX12_begin 123 = .ok (.putfield 167, 3) := by decide +kernel
theorem dX12_begin_126 : decode cX12_begin 126 = .ok (.aload_n 0, 1) := by decide +kernel
theorem dX12_begin_127 : decode cX12_begin 127 = .ok (.iconst 0, 1) := by decide +kernel
theorem dX12_begin_128 : decode cX12_begin 128 = .ok (.putfield 209, 3) := by decide +kernel
theorem dX12_begin_131 : decode cX12_begin 131 = .ok (.return_, 1) := by decide +kernel
theorem dX12_enters_0 : decode cX12_enters 0 = .ok (.aload_n 0, 1) := by decide +kernel
theorem dX12_enters_1 : decode cX12_enters 1 = .ok (.iload_n 1, 1) := by decide +kernel
theorem dX12_enters_2 : decode cX12_enters 2 = .ok (.iload_n 2, 1) := by decide +kernel
theorem dX12_enters_3 : decode cX12_enters 3 = .ok (.iconst 0, 1) := by decide +kernel
theorem dX12_enters_4 : decode cX12_enters 4 = .ok (.iconst 1, 1) := by decide +kernel
theorem dX12_enters_5 : decode cX12_enters 5 = .ok (.invokevirtual 412, 3) := by decide +kernel
theorem dX12_enters_8 : decode cX12_enters 8 = .ok (.aload_n 0, 1) := by decide +kernel
theorem dX12_enters_9 : decode cX12_enters 9 = .ok (.iload_n 1, 1) := by decide +kernel
theorem dX12_enters_10 : decode cX12_enters 10 = .ok (.iload_n 2, 1) := by decide +kernel
theorem dX12_enters_11 : decode cX12_enters 11 = .ok (.iconst 2, 1) := by decide +kernel
theorem dX12_enters_12 : decode cX12_enters 12 = .ok (.sipush 2000, 3) := by decide +kernel
theorem dX12_enters_15 : decode cX12_enters 15 = .ok (.invokevirtual 412, 3) := by decide +kernel
theorem dX12_enters_18 : decode cX12_enters 18 = .ok (.return_, 1) := by decide +kernel
theorem dX12_slot_0 : decode cX12_slot 0 = .ok (.iconst 2, 1) := by decide +kernel
theorem dX12_slot_1 : decode cX12_slot 1 = .ok (.aload_n 0, 1) := by decide +kernel
theorem dX12_slot_2 : decode cX12_slot 2 = .ok (.getfield 164, 3) := by decide +kernel
theorem dX12_slot_5 : decode cX12_slot 5 = .ok (.iload_n 1, 1) := by decide +kernel
theorem dX12_slot_6 : decode cX12_slot 6 = .ok (.iadd, 1) := by decide +kernel
theorem dX12_slot_7 : decode cX12_slot 7 = .ok (.bipush 20, 2) := by decide +kernel
theorem dX12_slot_9 : decode cX12_slot 9 = .ok (.irem, 1) := by decide +kernel
theorem dX12_slot_10 : decode cX12_slot 10 = .ok (.iadd, 1) := by decide +kernel
theorem dX12_slot_11 : decode cX12_slot 11 = .ok (.ireturn, 1) := by decide +kernel
theorem dX12_keeps_0 : decode cX12_keeps 0 = .ok (.aload_n 0, 1) := by decide +kernel
theorem dX12_keeps_1 : decode cX12_keeps 1 = .ok (.getfield 167, 3) := by decide +kernel
theorem dX12_keeps_4 : decode cX12_keeps 4 = .ok (.bipush 20, 2) := by decide +kernel
theorem dX12_keeps_6 : decode cX12_keeps 6 = .ok (.if_icmp .ne 26, 3) := by decide +kernel
theorem dX12_keeps_9 : decode cX12_keeps 9 = .ok (.aload_n 0, 1) := by decide +kernel
theorem dX12_keeps_10 : decode cX12_keeps 10 = .ok (.aload_n 0, 1) := by decide +kernel
theorem dX12_keeps_11 : decode cX12_keeps 11 = .ok (.getfield 164, 3) := by decide +kernel
theorem dX12_keeps_14 : decode cX12_keeps 14 = .ok (.iconst 1, 1) := by decide +kernel
theorem dX12_keeps_15 : decode cX12_keeps 15 = .ok (.iadd, 1) := by decide +kernel
theorem dX12_keeps_16 : decode cX12_keeps 16 = .ok (.bipush 20, 2) := by decide +kernel
theorem dX12_keeps_18 : decode cX12_keeps 18 = .ok (.irem, 1) := by decide +kernel
theorem dX12_keeps_19 : decode cX12_keeps 19 = .ok (.putfield 164, 3) := by decide +kernel
theorem dX12_keeps_22 : decode cX12_keeps 22 = .ok (.aload_n 0, 1) := by decide +kernel
theorem dX12_keeps_23 : decode cX12_keeps 23 = .ok (.dup, 1) := by decide +kernel
theorem dX12_keeps_24 : decode cX12_keeps 24 = .ok (.getfield 167, 3) := by decide +kernel
theorem dX12_keeps_27 : decode cX12_keeps 27 = .ok (.iconst 1, 1) := by decide +kernel
theorem dX12_keeps_28 : decode cX12_keeps 28 = .ok (.isub, 1) := by decide +kernel
theorem dX12_keeps_29 : decode cX12_keeps 29 = .ok (.putfield 167, 3) := by decide +kernel
theorem dX12_keeps_32 : decode cX12_keeps 32 = .ok (.aload_n 0, 1) := by decide +kernel
theorem dX12_keeps_33 : decode cX12_keeps 33 = .ok (.aload_n 0, 1) := by decide +kernel
theorem dX12_keeps_34 : decode cX12_keeps 34 = .ok (.aload_n 0, 1) := by decide +kernel
theorem dX12_keeps_35 : decode cX12_keeps 35 = .ok (.getfield 167, 3) := by decide +kernel
theorem dX12_keeps_38 : decode cX12_keeps 38 = .ok (.invokevirtual 416, 3) := by decide +kernel
theorem dX12_keeps_41 : decode cX12_keeps 41 = .ok (.iconst 0, 1) := by decide +kernel
theorem dX12_keeps_42 : decode cX12_keeps 42 = .ok (.invokevirtual 419, 3) := by decide +kernel
theorem dX12_keeps_45 : decode cX12_keeps 45 = .ok (.aload_n 0, 1) := by decide +kernel
theorem dX12_keeps_46 : decode cX12_keeps 46 = .ok (.dup, 1) := by decide +kernel
theorem dX12_keeps_47 : decode cX12_keeps 47 = .ok (.getfield 167, 3) := by decide +kernel
theorem dX12_keeps_50 : decode cX12_keeps 50 = .ok (.iconst 1, 1) := by decide +kernel
theorem dX12_keeps_51 : decode cX12_keeps 51 = .ok (.iadd, 1) := by decide +kernel
theorem dX12_keeps_52 : decode cX12_keeps 52 = .ok (.putfield 167, 3) := by decide +kernel
theorem dX12_keeps_55 : decode cX12_keeps 55 = .ok (.return_, 1) := by decide +kernel
theorem dX12_undo_0 : decode cX12_undo 0 = .ok (.aload_n 0, 1) := by decide +kernel
theorem dX12_undo_1 : decode cX12_undo 1 = .ok (.getfield 167, 3) := by decide +kernel
theorem dX12_undo_4 : decode cX12_undo 4 = .ok (.ifCond .ne 17, 3) := by decide +kernel
theorem dX12_undo_7 : decode cX12_undo 7 = .ok (.aload_n 0, 1) := by decide +kernel
theorem dX12_undo_8 : decode cX12_undo 8 = .ok (.iconst 4, 1) := by decide +kernel
theorem dX12_undo_9 : decode cX12_undo 9 = .ok (.invokevirtual 224, 3) := by decide +kernel
theorem dX12_undo_12 : decode cX12_undo 12 = .ok (.ifCond .lt 7, 3) := by decide +kernel
theorem dX12_undo_15 : decode cX12_undo 15 = .ok (.iconst 1, 1) := by decide +kernel
theorem dX12_undo_16 : decode cX12_undo 16 = .ok (.goto 4, 3) := by decide +kernel
theorem dX12_undo_19 : decode cX12_undo 19 = .ok (.iconst 0, 1) := by decide +kernel
theorem dX12_undo_20 : decode cX12_undo 20 = .ok (.ireturn, 1) := by decide +kernel
theorem dX12_undo_21 : decode cX12_undo 21 = .ok (.aload_n 0, 1) := by decide +kernel
theorem dX12_undo_22 : decode cX12_undo 22 = .ok (.dup, 1) := by decide +kernel
theorem dX12_undo_23 : decode cX12_undo 23 = .ok (.getfield 167, 3) := by decide +kernel
theorem dX12_undo_26 : decode cX12_undo 26 = .ok (.iconst 1, 1) := by decide +kernel
theorem dX12_undo_27 : decode cX12_undo 27 = .ok (.isub, 1) := by decide +kernel
theorem dX12_undo_28 : decode cX12_undo 28 = .ok (.putfield 167, 3) := by decide +kernel
theorem dX12_undo_31 : decode cX12_undo 31 = .ok (.aload_n 0, 1) := by decide +kernel
theorem dX12_undo_32 : decode cX12_undo 32 = .ok (.iconst 0, 1) := by decide +kernel
theorem dX12_undo_33 : decode cX12_undo 33 = .ok (.aload_n 0, 1) := by decide +kernel
theorem dX12_undo_34 : decode cX12_undo 34 = .ok (.aload_n 0, 1) := by decide +kernel
theorem dX12_undo_35 : decode cX12_undo 35 = .ok (.getfield 167, 3) := by decide +kernel
theorem dX12_undo_38 : decode cX12_undo 38 = .ok (.invokevirtual 416, 3) := by decide +kernel
theorem dX12_undo_41 : decode cX12_undo 41 = .ok (.invokevirtual 419, 3) := by decide +kernel
theorem dX12_undo_44 : decode cX12_undo 44 = .ok (.iconst 1, 1) := by decide +kernel
theorem dX12_undo_45 : decode cX12_undo 45 = .ok (.ireturn, 1) := by decide +kernel
theorem dX12_within_0 : decode cX12_within 0 = .ok (.lload_n 0, 1) := by decide +kernel
theorem dX12_within_1 : decode cX12_within 1 = .ok (.ldc2_w 422, 3) := by decide +kernel
theorem dX12_within_4 : decode cX12_within 4 = .ok (.lcmp, 1) := by decide +kernel
theorem dX12_within_5 : decode cX12_within 5 = .ok (.ifCond .le 9, 3) := by decide +kernel
theorem dX12_within_8 : decode cX12_within 8 = .ok (.ldc2_w 422, 3) := by decide +kernel
theorem dX12_within_11 : decode cX12_within 11 = .ok (.goto 18, 3) := by decide +kernel
theorem dX12_within_14 : decode cX12_within 14 = .ok (.lload_n 0, 1) := by decide +kernel
theorem dX12_within_15 : decode cX12_within 15 = .ok (.ldc2_w 424, 3) := by decide +kernel
theorem dX12_within_18 : decode cX12_within 18 = .ok (.lcmp, 1) := by decide +kernel
theorem dX12_within_19 : decode cX12_within 19 = .ok (.ifCond .ge 9, 3) := by decide +kernel
theorem dX12_within_22 : decode cX12_within 22 = .ok (.ldc2_w 424, 3) := by decide +kernel
theorem dX12_within_25 : decode cX12_within 25 = .ok (.goto 4, 3) := by decide +kernel
theorem dX12_within_28 : decode cX12_within 28 = .ok (.lload_n 0, 1) := by decide +kernel
theorem dX12_within_29 : decode cX12_within 29 = .ok (.lreturn, 1) := by decide +kernel
theorem dX12_floor_0 : decode cX12_floor 0 = .ok (.lload_n 2, 1) := by decide +kernel
theorem dX12_floor_1 : decode cX12_floor 1 = .ok (.lconst 0, 1) := by decide +kernel
theorem dX12_floor_2 : decode cX12_floor 2 = .ok (.lcmp, 1) := by decide +kernel
theorem dX12_floor_3 : decode cX12_floor 3 = .ok (.ifCond .ne 5, 3) := by decide +kernel
theorem dX12_floor_6 : decode cX12_floor 6 = .ok (.lconst 0, 1) := by decide +kernel
theorem dX12_floor_7 : decode cX12_floor 7 = .ok (.lreturn, 1) := by decide +kernel
theorem dX12_floor_8 : decode cX12_floor 8 = .ok (.lload_n 0, 1) := by decide +kernel
theorem dX12_floor_9 : decode cX12_floor 9 = .ok (.lload_n 2, 1) := by decide +kernel
theorem dX12_floor_10 : decode cX12_floor 10 = .ok (.ldiv, 1) := by decide +kernel
theorem dX12_floor_11 : decode cX12_floor 11 = .ok (.lstore 4, 2) := by decide +kernel
theorem dX12_floor_13 : decode cX12_floor 13 = .ok (.lload_n 0, 1) := by decide +kernel
theorem dX12_floor_14 : decode cX12_floor 14 = .ok (.lload_n 2, 1) := by decide +kernel
theorem dX12_floor_15 : decode cX12_floor 15 = .ok (.lrem, 1) := by decide +kernel
theorem dX12_floor_16 : decode cX12_floor 16 = .ok (.lconst 0, 1) := by decide +kernel
theorem dX12_floor_17 : decode cX12_floor 17 = .ok (.lcmp, 1) := by decide +kernel
theorem dX12_floor_18 : decode cX12_floor 18 = .ok (.ifCond .eq 35, 3) := by decide +kernel
theorem dX12_floor_21 : decode cX12_floor 21 = .ok (.lload_n 0, 1) := by decide +kernel
theorem dX12_floor_22 : decode cX12_floor 22 = .ok (.lconst 0, 1) := by decide +kernel
theorem dX12_floor_23 : decode cX12_floor 23 = .ok (.lcmp, 1) := by decide +kernel
theorem dX12_floor_24 : decode cX12_floor 24 = .ok (.ifCond .ge 7, 3) := by decide +kernel
theorem dX12_floor_27 : decode cX12_floor 27 = .ok (.iconst 1, 1) := by decide +kernel
theorem dX12_floor_28 : decode cX12_floor 28 = .ok (.goto 4, 3) := by decide +kernel
theorem dX12_floor_31 : decode cX12_floor 31 = .ok (.iconst 0, 1) := by decide +kernel
theorem dX12_floor_32 : decode cX12_floor 32 = .ok (.lload_n 2, 1) := by decide +kernel
theorem dX12_floor_33 : decode cX12_floor 33 = .ok (.lconst 0, 1) := by decide +kernel
theorem dX12_floor_34 : decode cX12_floor 34 = .ok (.lcmp, 1) := by decide +kernel
theorem dX12_floor_35 : decode cX12_floor 35 = .ok (.ifCond .ge 7, 3) := by decide +kernel
theorem dX12_floor_38 : decode cX12_floor 38 = .ok (.iconst 1, 1) := by decide +kernel
theorem dX12_floor_39 : decode cX12_floor 39 = .ok (.goto 4, 3) := by decide +kernel
theorem dX12_floor_42 : decode cX12_floor 42 = .ok (.iconst 0, 1) := by decide +kernel
theorem dX12_floor_43 : decode cX12_floor 43 = .ok (.if_icmp .eq 10, 3) := by decide +kernel
theorem dX12_floor_46 : decode cX12_floor 46 = .ok (.lload 4, 2) := by decide +kernel
theorem dX12_floor_48 : decode cX12_floor 48 = .ok (.lconst 1, 1) := by decide +kernel
theorem dX12_floor_49 : decode cX12_floor 49 = .ok (.lsub, 1) := by decide +kernel
theorem dX12_floor_50 : decode cX12_floor 50 = .ok (.goto 5, 3) := by decide +kernel
theorem dX12_floor_53 : decode cX12_floor 53 = .ok (.lload 4, 2) := by decide +kernel
theorem dX12_floor_55 : decode cX12_floor 55 = .ok (.lreturn, 1) := by decide +kernel
theorem dX12_two_0 : decode cX12_two 0 = .ok (.iload_n 0, 1) := by decide +kernel
theorem dX12_two_1 : decode cX12_two 1 = .ok (.tableswitch 176 31 41 #[59, 66, 73, 80, 89, 112, 124, 136, 148, 160, 172], 59) := by decide +kernel
theorem dX12_two_60 : decode cX12_two 60 = .ok (.lload_n 1, 1) := by decide +kernel
theorem dX12_two_61 : decode cX12_two 61 = .ok (.lload_n 3, 1) := by decide +kernel
theorem dX12_two_62 : decode cX12_two 62 = .ok (.ladd, 1) := by decide +kernel
theorem dX12_two_63 : decode cX12_two 63 = .ok (.invokestatic 426, 3) := by decide +kernel
theorem dX12_two_66 : decode cX12_two 66 = .ok (.lreturn, 1) := by decide +kernel
theorem dX12_two_67 : decode cX12_two 67 = .ok (.lload_n 1, 1) := by decide +kernel
theorem dX12_two_68 : decode cX12_two 68 = .ok (.lload_n 3, 1) := by decide +kernel
theorem dX12_two_69 : decode cX12_two 69 = .ok (.lsub, 1) := by decide +kernel
theorem dX12_two_70 : decode cX12_two 70 = .ok (.invokestatic 426, 3) := by decide +kernel
theorem dX12_two_73 : decode cX12_two 73 = .ok (.lreturn, 1) := by decide +kernel
theorem dX12_two_74 : decode cX12_two 74 = .ok (.lload_n 1, 1) := by decide +kernel
theorem dX12_two_75 : decode cX12_two 75 = .ok (.lload_n 3, 1) := by decide +kernel
theorem dX12_two_76 : decode cX12_two 76 = .ok (.lmul, 1) := by decide +kernel
theorem dX12_two_77 : decode cX12_two 77 = .ok (.invokestatic 426, 3) := by decide +kernel
theorem dX12_two_80 : decode cX12_two 80 = .ok (.lreturn, 1) := by decide +kernel
theorem dX12_two_81 : decode cX12_two 81 = .ok (.lload_n 1, 1) := by decide +kernel
theorem dX12_two_82 : decode cX12_two 82 = .ok (.lload_n 3, 1) := by decide +kernel
theorem dX12_two_83 : decode cX12_two 83 = .ok (.invokestatic 430, 3) := by decide +kernel
theorem dX12_two_86 : decode cX12_two 86 = .ok (.invokestatic 426, 3) := by decide +kernel
theorem dX12_two_89 : decode cX12_two 89 = .ok (.lreturn, 1) := by decide +kernel
theorem dX12_two_90 : decode cX12_two 90 = .ok (.lload_n 3, 1) := by decide +kernel
theorem dX12_two_91 : decode cX12_two 91 = .ok (.lconst 0, 1) := by decide +kernel
theorem dX12_two_92 : decode cX12_two 92 = .ok (.lcmp, 1) := by decide +kernel
theorem dX12_two_93 : decode cX12_two 93 = .ok (.ifCond .ne 7, 3) := by decide +kernel
theorem dX12_two_96 : decode cX12_two 96 = .ok (.lconst 0, 1) := by decide +kernel
theorem dX12_two_97 : decode cX12_two 97 = .ok (.goto 15, 3) := by decide +kernel
theorem dX12_two_100 : decode cX12_two 100 = .ok (.lload_n 1, 1) := by decide +kernel
theorem dX12_two_101 : decode cX12_two 101 = .ok (.lload_n 3, 1) := by decide +kernel
theorem dX12_two_102 : decode cX12_two 102 = .ok (.lload_n 1, 1) := by decide +kernel
theorem dX12_two_103 : decode cX12_two 103 = .ok (.lload_n 3, 1) := by decide +kernel
theorem dX12_two_104 : decode cX12_two 104 = .ok (.invokestatic 430, 3) := by decide +kernel
theorem dX12_two_107 : decode cX12_two 107 = .ok (.lmul, 1) := by decide +kernel
theorem dX12_two_108 : decode cX12_two 108 = .ok (.lsub, 1) := by decide +kernel
theorem dX12_two_109 : decode cX12_two 109 = .ok (.invokestatic 426, 3) := by decide +kernel
theorem dX12_two_112 : decode cX12_two 112 = .ok (.lreturn, 1) := by decide +kernel
theorem dX12_two_113 : decode cX12_two 113 = .ok (.lload_n 1, 1) := by decide +kernel
theorem dX12_two_114 : decode cX12_two 114 = .ok (.lload_n 3, 1) := by decide +kernel
theorem dX12_two_115 : decode cX12_two 115 = .ok (.lcmp, 1) := by decide +kernel
theorem dX12_two_116 : decode cX12_two 116 = .ok (.ifCond .ge 7, 3) := by decide +kernel
theorem dX12_two_119 : decode cX12_two 119 = .ok (.lload_n 1, 1) := by decide +kernel
theorem dX12_two_120 : decode cX12_two 120 = .ok (.goto 4, 3) := by decide +kernel
theorem dX12_two_123 : decode cX12_two 123 = .ok (.lload_n 3, 1) := by decide +kernel
theorem dX12_two_124 : decode cX12_two 124 = .ok (.lreturn, 1) := by decide +kernel
theorem dX12_two_125 : decode cX12_two 125 = .ok (.lload_n 1, 1) := by decide +kernel
theorem dX12_two_126 : decode cX12_two 126 = .ok (.lload_n 3, 1) := by decide +kernel
theorem dX12_two_127 : decode cX12_two 127 = .ok (.lcmp, 1) := by decide +kernel
theorem dX12_two_128 : decode cX12_two 128 = .ok (.ifCond .le 7, 3) := by decide +kernel
theorem dX12_two_131 : decode cX12_two 131 = .ok (.lload_n 1, 1) := by decide +kernel
theorem dX12_two_132 : decode cX12_two 132 = .ok (.goto 4, 3) := by decide +kernel
theorem dX12_two_135 : decode cX12_two 135 = .ok (.lload_n 3, 1) := by decide +kernel
theorem dX12_two_136 : decode cX12_two 136 = .ok (.lreturn, 1) := by decide +kernel
theorem dX12_two_137 : decode cX12_two 137 = .ok (.lload_n 1, 1) := by decide +kernel
theorem dX12_two_138 : decode cX12_two 138 = .ok (.lload_n 3, 1) := by decide +kernel
theorem dX12_two_139 : decode cX12_two 139 = .ok (.lcmp, 1) := by decide +kernel
theorem dX12_two_140 : decode cX12_two 140 = .ok (.ifCond .ge 7, 3) := by decide +kernel
theorem dX12_two_143 : decode cX12_two 143 = .ok (.lconst 1, 1) := by decide +kernel
theorem dX12_two_144 : decode cX12_two 144 = .ok (.goto 4, 3) := by decide +kernel
theorem dX12_two_147 : decode cX12_two 147 = .ok (.lconst 0, 1) := by decide +kernel
theorem dX12_two_148 : decode cX12_two 148 = .ok (.lreturn, 1) := by decide +kernel
theorem dX12_two_149 : decode cX12_two 149 = .ok (.lload_n 1, 1) := by decide +kernel
theorem dX12_two_150 : decode cX12_two 150 = .ok (.lload_n 3, 1) := by decide +kernel
theorem dX12_two_151 : decode cX12_two 151 = .ok (.lcmp, 1) := by decide +kernel
theorem dX12_two_152 : decode cX12_two 152 = .ok (.ifCond .le 7, 3) := by decide +kernel
theorem dX12_two_155 : decode cX12_two 155 = .ok (.lconst 1, 1) := by decide +kernel
theorem dX12_two_156 : decode cX12_two 156 = .ok (.goto 4, 3) := by decide +kernel
theorem dX12_two_159 : decode cX12_two 159 = .ok (.lconst 0, 1) := by decide +kernel
theorem dX12_two_160 : decode cX12_two 160 = .ok (.lreturn, 1) := by decide +kernel
theorem dX12_two_161 : decode cX12_two 161 = .ok (.lload_n 1, 1) := by decide +kernel
theorem dX12_two_162 : decode cX12_two 162 = .ok (.lload_n 3, 1) := by decide +kernel
theorem dX12_two_163 : decode cX12_two 163 = .ok (.lcmp, 1) := by decide +kernel
theorem dX12_two_164 : decode cX12_two 164 = .ok (.ifCond .ne 7, 3) := by decide +kernel
theorem dX12_two_167 : decode cX12_two 167 = .ok (.lconst 1, 1) := by decide +kernel
theorem dX12_two_168 : decode cX12_two 168 = .ok (.goto 4, 3) := by decide +kernel
theorem dX12_two_171 : decode cX12_two 171 = .ok (.lconst 0, 1) := by decide +kernel
theorem dX12_two_172 : decode cX12_two 172 = .ok (.lreturn, 1) := by decide +kernel
theorem dX12_two_173 : decode cX12_two 173 = .ok (.lload_n 1, 1) := by decide +kernel
theorem dX12_two_174 : decode cX12_two 174 = .ok (.lload_n 3, 1) := by decide +kernel
theorem dX12_two_175 : decode cX12_two 175 = .ok (.land, 1) := by decide +kernel
theorem dX12_two_176 : decode cX12_two 176 = .ok (.lreturn, 1) := by decide +kernel
theorem dX12_two_177 : decode cX12_two 177 = .ok (.lload_n 1, 1) := by decide +kernel
theorem dX12_two_178 : decode cX12_two 178 = .ok (.lload_n 3, 1) := by decide +kernel
theorem dX12_two_179 : decode cX12_two 179 = .ok (.lor, 1) := by decide +kernel
theorem dX12_two_180 : decode cX12_two 180 = .ok (.lreturn, 1) := by decide +kernel
theorem dX12_reckons_0 : decode cX12_reckons 0 = .ok (.iconst 0, 1) := by decide +kernel
theorem dX12_reckons_1 : decode cX12_reckons 1 = .ok (.istore_n 2, 1) := by decide +kernel
theorem dX12_reckons_2 : decode cX12_reckons 2 = .ok (.sipush 1600, 3) := by decide +kernel
theorem dX12_reckons_5 : decode cX12_reckons 5 = .ok (.aload_n 0, 1) := by decide +kernel
theorem dX12_reckons_6 : decode cX12_reckons 6 = .ok (.getfield 51, 3) := by decide +kernel
theorem dX12_reckons_9 : decode cX12_reckons 9 = .ok (.imul, 1) := by decide +kernel
theorem dX12_reckons_10 : decode cX12_reckons 10 = .ok (.aload_n 0, 1) := by decide +kernel
theorem dX12_reckons_11 : decode cX12_reckons 11 = .ok (.getfield 81, 3) := by decide +kernel
theorem dX12_reckons_14 : decode cX12_reckons 14 = .ok (.iconst 4, 1) := by decide +kernel
theorem dX12_reckons_15 : decode cX12_reckons 15 = .ok (.aload_n 0, 1) := by decide +kernel
theorem dX12_reckons_16 : decode cX12_reckons 16 = .ok (.getfield 51, 3) := by decide +kernel
theorem dX12_reckons_19 : decode cX12_reckons 19 = .ok (.imul, 1) := by decide +kernel
theorem dX12_reckons_20 : decode cX12_reckons 20 = .ok (.iload_n 1, 1) := by decide +kernel
theorem dX12_reckons_21 : decode cX12_reckons 21 = .ok (.iadd, 1) := by decide +kernel
theorem dX12_reckons_22 : decode cX12_reckons 22 = .ok (.iaload, 1) := by decide +kernel
theorem dX12_reckons_23 : decode cX12_reckons 23 = .ok (.iadd, 1) := by decide +kernel
theorem dX12_reckons_24 : decode cX12_reckons 24 = .ok (.istore_n 3, 1) := by decide +kernel
theorem dX12_reckons_25 : decode cX12_reckons 25 = .ok (.iload_n 3, 1) := by decide +kernel
theorem dX12_reckons_26 : decode cX12_reckons 26 = .ok (.sipush 1600, 3) := by decide +kernel
theorem dX12_reckons_29 : decode cX12_reckons 29 = .ok (.aload_n 0, 1) := by decide +kernel
theorem dX12_reckons_30 : decode cX12_reckons 30 = .ok (.getfield 51, 3) := by decide +kernel
theorem dX12_reckons_33 : decode cX12_reckons 33 = .ok (.imul, 1) := by decide +kernel
theorem dX12_reckons_34 : decode cX12_reckons 34 = .ok (.aload_n 0, 1) := by decide +kernel
theorem dX12_reckons_35 : decode cX12_reckons 35 = .ok (.getfield 84, 3) := by decide +kernel
theorem dX12_reckons_38 : decode cX12_reckons 38 = .ok (.iconst 4, 1) := by decide +kernel
theorem dX12_reckons_39 : decode cX12_reckons 39 = .ok (.aload_n 0, 1) := by decide +kernel
theorem dX12_reckons_40 : decode cX12_reckons 40 = .ok (.getfield 51, 3) := by decide +kernel
theorem dX12_reckons_43 : decode cX12_reckons 43 = .ok (.imul, 1) := by decide +kernel
theorem dX12_reckons_44 : decode cX12_reckons 44 = .ok (.iload_n 1, 1) := by decide +kernel
theorem dX12_reckons_45 : decode cX12_reckons 45 = .ok (.iadd, 1) := by decide +kernel
theorem dX12_reckons_46 : decode cX12_reckons 46 = .ok (.iaload, 1) := by decide +kernel
theorem dX12_reckons_47 : decode cX12_reckons 47 = .ok (.iadd, 1) := by decide +kernel
theorem dX12_reckons_48 : decode cX12_reckons 48 = .ok (.if_icmp .ge 179, 3) := by decide +kernel
theorem dX12_reckons_51 : decode cX12_reckons 51 = .ok (.aload_n 0, 1) := by decide +kernel
theorem dX12_reckons_52 : decode cX12_reckons 52 = .ok (.getfield 87, 3) := by decide +kernel
theorem dX12_reckons_55 : decode cX12_reckons 55 = .ok (.iload_n 3, 1) := by decide +kernel
theorem dX12_reckons_56 : decode cX12_reckons 56 = .ok (.iaload, 1) := by decide +kernel
theorem dX12_reckons_57 : decode cX12_reckons 57 = .ok (.istore 4, 2) := by decide +kernel
theorem dX12_reckons_59 : decode cX12_reckons 59 = .ok (.iload 4, 2) := by decide +kernel
theorem dX12_reckons_61 : decode cX12_reckons 61 = .ok (.bipush 30, 2) := by decide +kernel
theorem dX12_reckons_63 : decode cX12_reckons 63 = .ok (.if_icmp .gt 49, 3) := by decide +kernel
theorem dX12_reckons_66 : decode cX12_reckons 66 = .ok (.aload_n 0, 1) := by decide +kernel
theorem dX12_reckons_67 : decode cX12_reckons 67 = .ok (.getfield 179, 3) := by decide +kernel
theorem dX12_reckons_70 : decode cX12_reckons 70 = .ok (.iload_n 2, 1) := by decide +kernel
theorem dX12_reckons_71 : decode cX12_reckons 71 = .ok (.iload 4, 2) := by decide +kernel
theorem dX12_reckons_73 : decode cX12_reckons 73 = .ok (.ifCond .ne 13, 3) := by decide +kernel
theorem dX12_reckons_76 : decode cX12_reckons 76 = .ok (.aload_n 0, 1) := by decide +kernel
theorem dX12_reckons_77 : decode cX12_reckons 77 = .ok (.getfield 90, 3) := by decide +kernel
theorem dX12_reckons_80 : decode cX12_reckons 80 = .ok (.iload_n 3, 1) := by decide +kernel
theorem dX12_reckons_81 : decode cX12_reckons 81 = .ok (.iaload, 1) := by decide +kernel
theorem dX12_reckons_82 : decode cX12_reckons 82 = .ok (.i2l, 1) := by decide +kernel
theorem dX12_reckons_83 : decode cX12_reckons 83 = .ok (.goto 22, 3) := by decide +kernel
theorem dX12_reckons_86 : decode cX12_reckons 86 = .ok (.iload 4, 2) := by decide +kernel
theorem dX12_reckons_88 : decode cX12_reckons 88 = .ok (.bipush 30, 2) := by decide +kernel
theorem dX12_reckons_90 : decode cX12_reckons 90 = .ok (.if_icmp .ne 7, 3) := by decide +kernel
theorem dX12_reckons_93 : decode cX12_reckons 93 = .ok (.lconst 1, 1) := by decide +kernel
theorem dX12_reckons_94 : decode cX12_reckons 94 = .ok (.goto 11, 3) := by decide +kernel
theorem dX12_reckons_97 : decode cX12_reckons 97 = .ok (.aload_n 0, 1) := by decide +kernel
theorem dX12_reckons_98 : decode cX12_reckons 98 = .ok (.getfield 182, 3) := by decide +kernel
theorem dX12_reckons_101 : decode cX12_reckons 101 = .ok (.iload 4, 2) := by decide +kernel
theorem dX12_reckons_103 : decode cX12_reckons 103 = .ok (.iaload, 1) := by decide +kernel
theorem dX12_reckons_104 : decode cX12_reckons 104 = .ok (.i2l, 1) := by decide +kernel
theorem dX12_reckons_105 : decode cX12_reckons 105 = .ok (.lastore, 1) := by decide +kernel
theorem dX12_reckons_106 : decode cX12_reckons 106 = .ok (.iinc 2 1, 3) := by decide +kernel
theorem dX12_reckons_109 : decode cX12_reckons 109 = .ok (.goto 112, 3) := by decide +kernel
theorem dX12_reckons_112 : decode cX12_reckons 112 = .ok (.iload 4, 2) := by decide +kernel
theorem dX12_reckons_114 : decode cX12_reckons 114 = .ok (.bipush 43, 2) := by decide +kernel
theorem dX12_reckons_116 : decode cX12_reckons 116 = .ok (.if_icmp .ne 24, 3) := by decide +kernel
theorem dX12_reckons_119 : decode cX12_reckons 119 = .ok (.aload_n 0, 1) := by decide +kernel
theorem dX12_reckons_120 : decode cX12_reckons 120 = .ok (.getfield 179, 3) := by decide +kernel
theorem dX12_reckons_123 : decode cX12_reckons 123 = .ok (.iload_n 2, 1) := by decide +kernel
theorem dX12_reckons_124 : decode cX12_reckons 124 = .ok (.iconst 1, 1) := by decide +kernel
theorem dX12_reckons_125 : decode cX12_reckons 125 = .ok (.isub, 1) := by decide +kernel
theorem dX12_reckons_126 : decode cX12_reckons 126 = .ok (.lconst 1, 1) := by decide +kernel
theorem dX12_reckons_127 : decode cX12_reckons 127 = .ok (.aload_n 0, 1) := by decide +kernel
theorem dX12_reckons_128 : decode cX12_reckons 128 = .ok (.getfield 179, 3) := by decide +kernel
theorem dX12_reckons_131 : decode cX12_reckons 131 = .ok (.iload_n 2, 1) := by decide +kernel
theorem dX12_reckons_132 : decode cX12_reckons 132 = .ok (.iconst 1, 1) := by decide +kernel
theorem dX12_reckons_133 : decode cX12_reckons 133 = .ok (.isub, 1) := by decide +kernel
theorem dX12_reckons_134 : decode cX12_reckons 134 = .ok (.laload, 1) := by decide +kernel
theorem dX12_reckons_135 : decode cX12_reckons 135 = .ok (.lsub, 1) := by decide +kernel
theorem dX12_reckons_136 : decode cX12_reckons 136 = .ok (.lastore, 1) := by decide +kernel
theorem dX12_reckons_137 : decode cX12_reckons 137 = .ok (.goto 84, 3) := by decide +kernel
theorem dX12_reckons_140 : decode cX12_reckons 140 = .ok (.iload 4, 2) := by decide +kernel
theorem dX12_reckons_142 : decode cX12_reckons 142 = .ok (.bipush 44, 2) := by decide +kernel
theorem dX12_reckons_144 : decode cX12_reckons 144 = .ok (.if_icmp .ne 47, 3) := by decide +kernel
theorem dX12_reckons_147 : decode cX12_reckons 147 = .ok (.iinc 2 (-2), 3) := by decide +kernel
theorem dX12_reckons_150 : decode cX12_reckons 150 = .ok (.aload_n 0, 1) := by decide +kernel
theorem dX12_reckons_151 : decode cX12_reckons 151 = .ok (.getfield 179, 3) := by decide +kernel
theorem dX12_reckons_154 : decode cX12_reckons 154 = .ok (.iload_n 2, 1) := by decide +kernel
theorem dX12_reckons_155 : decode cX12_reckons 155 = .ok (.iconst 1, 1) := by decide +kernel
theorem dX12_reckons_156 : decode cX12_reckons 156 = .ok (.isub, 1) := by decide +kernel
theorem dX12_reckons_157 : decode cX12_reckons 157 = .ok (.aload_n 0, 1) := by decide +kernel
theorem dX12_reckons_158 : decode cX12_reckons 158 = .ok (.getfield 179, 3) := by decide +kernel
theorem dX12_reckons_161 : decode cX12_reckons 161 = .ok (.iload_n 2, 1) := by decide +kernel
theorem dX12_reckons_162 : decode cX12_reckons 162 = .ok (.iconst 1, 1) := by decide +kernel
theorem dX12_reckons_163 : decode cX12_reckons 163 = .ok (.isub, 1) := by decide +kernel
theorem dX12_reckons_164 : decode cX12_reckons 164 = .ok (.laload, 1) := by decide +kernel
theorem dX12_reckons_165 : decode cX12_reckons 165 = .ok (.lconst 1, 1) := by decide +kernel
theorem dX12_reckons_166 : decode cX12_reckons 166 = .ok (.lcmp, 1) := by decide +kernel
theorem dX12_reckons_167 : decode cX12_reckons 167 = .ok (.ifCond .ne 12, 3) := by decide +kernel
theorem dX12_reckons_170 : decode cX12_reckons 170 = .ok (.aload_n 0, 1) := by decide +kernel
theorem dX12_reckons_171 : decode cX12_reckons 171 = .ok (.getfield 179, 3) := by decide +kernel
theorem dX12_reckons_174 : decode cX12_reckons 174 = .ok (.iload_n 2, 1) := by decide +kernel
theorem dX12_reckons_175 : decode cX12_reckons 175 = .ok (.laload, 1) := by decide +kernel
theorem dX12_reckons_176 : decode cX12_reckons 176 = .ok (.goto 11, 3) := by decide +kernel
theorem dX12_reckons_179 : decode cX12_reckons 179 = .ok (.aload_n 0, 1) := by decide +kernel
theorem dX12_reckons_180 : decode cX12_reckons 180 = .ok (.getfield 179, 3) := by decide +kernel
theorem dX12_reckons_183 : decode cX12_reckons 183 = .ok (.iload_n 2, 1) := by decide +kernel
theorem dX12_reckons_184 : decode cX12_reckons 184 = .ok (.iconst 1, 1) := by decide +kernel
theorem dX12_reckons_185 : decode cX12_reckons 185 = .ok (.iadd, 1) := by decide +kernel
theorem dX12_reckons_186 : decode cX12_reckons 186 = .ok (.laload, 1) := by decide +kernel
theorem dX12_reckons_187 : decode cX12_reckons 187 = .ok (.lastore, 1) := by decide +kernel
theorem dX12_reckons_188 : decode cX12_reckons 188 = .ok (.goto 33, 3) := by decide +kernel
theorem dX12_reckons_191 : decode cX12_reckons 191 = .ok (.iinc 2 (-1), 3) := by decide +kernel
theorem dX12_reckons_194 : decode cX12_reckons 194 = .ok (.aload_n 0, 1) := by decide +kernel
theorem dX12_reckons_195 : decode cX12_reckons 195 = .ok (.getfield 179, 3) := by decide +kernel
theorem dX12_reckons_198 : decode cX12_reckons 198 = .ok (.iload_n 2, 1) := by decide +kernel
theorem dX12_reckons_199 : decode cX12_reckons 199 = .ok (.iconst 1, 1) := by decide +kernel
theorem dX12_reckons_200 : decode cX12_reckons 200 = .ok (.isub, 1) := by decide +kernel
theorem dX12_reckons_201 : decode cX12_reckons 201 = .ok (.iload 4, 2) := by decide +kernel
theorem dX12_reckons_203 : decode cX12_reckons 203 = .ok (.aload_n 0, 1) := by decide +kernel
theorem dX12_reckons_204 : decode cX12_reckons 204 = .ok (.getfield 179, 3) := by decide +kernel
theorem dX12_reckons_207 : decode cX12_reckons 207 = .ok (.iload_n 2, 1) := by decide +kernel
theorem dX12_reckons_208 : decode cX12_reckons 208 = .ok (.iconst 1, 1) := by decide +kernel
theorem dX12_reckons_209 : decode cX12_reckons 209 = .ok (.isub, 1) := by decide +kernel
theorem dX12_reckons_210 : decode cX12_reckons 210 = .ok (.laload, 1) := by decide +kernel
theorem dX12_reckons_211 : decode cX12_reckons 211 = .ok (.aload_n 0, 1) := by decide +kernel
theorem dX12_reckons_212 : decode cX12_reckons 212 = .ok (.getfield 179, 3) := by decide +kernel
theorem dX12_reckons_215 : decode cX12_reckons 215 = .ok (.iload_n 2, 1) := by decide +kernel
theorem dX12_reckons_216 : decode cX12_reckons 216 = .ok (.laload, 1) := by decide +kernel
theorem dX12_reckons_217 : decode cX12_reckons 217 = .ok (.invokestatic 434, 3) := by decide +kernel
theorem dX12_reckons_220 : decode cX12_reckons 220 = .ok (.lastore, 1) := by decide +kernel
theorem dX12_reckons_221 : decode cX12_reckons 221 = .ok (.iinc 3 1, 3) := by decide +kernel
theorem dX12_reckons_224 : decode cX12_reckons 224 = .ok (.goto (-199), 3) := by decide +kernel
theorem dX12_reckons_227 : decode cX12_reckons 227 = .ok (.aload_n 0, 1) := by decide +kernel
theorem dX12_reckons_228 : decode cX12_reckons 228 = .ok (.getfield 179, 3) := by decide +kernel
theorem dX12_reckons_231 : decode cX12_reckons 231 = .ok (.iconst 0, 1) := by decide +kernel
theorem dX12_reckons_232 : decode cX12_reckons 232 = .ok (.laload, 1) := by decide +kernel
theorem dX12_reckons_233 : decode cX12_reckons 233 = .ok (.lreturn, 1) := by decide +kernel
theorem dX12_isTold_0 : decode cX12_isTold 0 = .ok (.aload_n 0, 1) := by decide +kernel
theorem dX12_isTold_1 : decode cX12_isTold 1 = .ok (.getfield 81, 3) := by decide +kernel
theorem dX12_isTold_4 : decode cX12_isTold 4 = .ok (.iconst 4, 1) := by decide +kernel
theorem dX12_isTold_5 : decode cX12_isTold 5 = .ok (.aload_n 0, 1) := by decide +kernel
theorem dX12_isTold_6 : decode cX12_isTold 6 = .ok (.getfield 51, 3) := by decide +kernel
theorem dX12_isTold_9 : decode cX12_isTold 9 = .ok (.imul, 1) := by decide +kernel
theorem dX12_isTold_10 : decode cX12_isTold 10 = .ok (.iload_n 1, 1) := by decide +kernel
theorem dX12_isTold_11 : decode cX12_isTold 11 = .ok (.iadd, 1) := by decide +kernel
theorem dX12_isTold_12 : decode cX12_isTold 12 = .ok (.iaload, 1) := by decide +kernel
theorem dX12_isTold_13 : decode cX12_isTold 13 = .ok (.iconst (-1), 1) := by decide +kernel
theorem dX12_isTold_14 : decode cX12_isTold 14 = .ok (.if_icmp .eq 7, 3) := by decide +kernel
theorem dX12_isTold_17 : decode cX12_isTold 17 = .ok (.iconst 1, 1) := by decide +kernel
theorem dX12_isTold_18 : decode cX12_isTold 18 = .ok (.goto 4, 3) := by decide +kernel
theorem dX12_isTold_21 : decode cX12_isTold 21 = .ok (.iconst 0, 1) := by decide +kernel
theorem dX12_isTold_22 : decode cX12_isTold 22 = .ok (.ireturn, 1) := by decide +kernel
theorem dX12_lays_0 : decode cX12_lays 0 = .ok (.aload_n 0, 1) := by decide +kernel
theorem dX12_lays_1 : decode cX12_lays 1 = .ok (.getfield 182, 3) := by decide +kernel
theorem dX12_lays_4 : decode cX12_lays 4 = .ok (.iconst 1, 1) := by decide +kernel
theorem dX12_lays_5 : decode cX12_lays 5 = .ok (.aload_n 0, 1) := by decide +kernel
theorem dX12_lays_6 : decode cX12_lays 6 = .ok (.iload_n 1, 1) := by decide +kernel
theorem dX12_lays_7 : decode cX12_lays 7 = .ok (.iconst 0, 1) := by decide +kernel
theorem dX12_lays_8 : decode cX12_lays 8 = .ok (.invokevirtual 402, 3) := by decide +kernel
theorem dX12_lays_11 : decode cX12_lays 11 = .ok (.iastore, 1) := by decide +kernel
theorem dX12_lays_12 : decode cX12_lays 12 = .ok (.aload_n 0, 1) := by decide +kernel
theorem dX12_lays_13 : decode cX12_lays 13 = .ok (.getfield 182, 3) := by decide +kernel
theorem dX12_lays_16 : decode cX12_lays 16 = .ok (.iconst 2, 1) := by decide +kernel
theorem dX12_lays_17 : decode cX12_lays 17 = .ok (.iload_n 2, 1) := by decide +kernel
theorem dX12_lays_18 : decode cX12_lays 18 = .ok (.iastore, 1) := by decide +kernel
theorem dX12_lays_19 : decode cX12_lays 19 = .ok (.aload_n 0, 1) := by decide +kernel
theorem dX12_lays_20 : decode cX12_lays 20 = .ok (.getfield 182, 3) := by decide +kernel
theorem dX12_lays_23 : decode cX12_lays 23 = .ok (.iconst 5, 1) := by decide +kernel
theorem dX12_lays_24 : decode cX12_lays 24 = .ok (.aload_n 0, 1) := by decide +kernel
theorem dX12_lays_25 : decode cX12_lays 25 = .ok (.getfield 176, 3) := by decide +kernel
theorem dX12_lays_28 : decode cX12_lays 28 = .ok (.iload_n 2, 1) := by decide +kernel
theorem dX12_lays_29 : decode cX12_lays 29 = .ok (.iaload, 1) := by decide +kernel
theorem dX12_lays_30 : decode cX12_lays 30 = .ok (.iastore, 1) := by decide +kernel
theorem dX12_lays_31 : decode cX12_lays 31 = .ok (.aload_n 0, 1) := by decide +kernel
theorem dX12_lays_32 : decode cX12_lays 32 = .ok (.getfield 182, 3) := by decide +kernel
theorem dX12_lays_35 : decode cX12_lays 35 = .ok (.bipush 6, 2) := by decide +kernel
theorem dX12_lays_37 : decode cX12_lays 37 = .ok (.aload_n 0, 1) := by decide +kernel
theorem dX12_lays_38 : decode cX12_lays 38 = .ok (.iload_n 1, 1) := by decide +kernel
theorem dX12_lays_39 : decode cX12_lays 39 = .ok (.iload_n 2, 1) := by decide +kernel
theorem dX12_lays_40 : decode cX12_lays 40 = .ok (.iconst 2, 1) := by decide +kernel
theorem dX12_lays_41 : decode cX12_lays 41 = .ok (.invokevirtual 438, 3) := by decide +kernel
theorem dX12_lays_44 : decode cX12_lays 44 = .ok (.iastore, 1) := by decide +kernel
theorem dX12_lays_45 : decode cX12_lays 45 = .ok (.aload_n 0, 1) := by decide +kernel
theorem dX12_lays_46 : decode cX12_lays 46 = .ok (.getfield 182, 3) := by decide +kernel
theorem dX12_lays_49 : decode cX12_lays 49 = .ok (.bipush 7, 2) := by decide +kernel
theorem dX12_lays_51 : decode cX12_lays 51 = .ok (.aload_n 0, 1) := by decide +kernel
theorem dX12_lays_52 : decode cX12_lays 52 = .ok (.iload_n 1, 1) := by decide +kernel
theorem dX12_lays_53 : decode cX12_lays 53 = .ok (.iload_n 2, 1) := by decide +kernel
theorem dX12_lays_54 : decode cX12_lays 54 = .ok (.invokevirtual 442, 3) := by decide +kernel
theorem dX12_lays_57 : decode cX12_lays 57 = .ok (.iastore, 1) := by decide +kernel
theorem dX12_lays_58 : decode cX12_lays 58 = .ok (.aload_n 0, 1) := by decide +kernel
theorem dX12_lays_59 : decode cX12_lays 59 = .ok (.getfield 182, 3) := by decide +kernel
theorem dX12_lays_62 : decode cX12_lays 62 = .ok (.bipush 8, 2) := by decide +kernel
theorem dX12_lays_64 : decode cX12_lays 64 = .ok (.aload_n 0, 1) := by decide +kernel
theorem dX12_lays_65 : decode cX12_lays 65 = .ok (.iload_n 1, 1) := by decide +kernel
theorem dX12_lays_66 : decode cX12_lays 66 = .ok (.iload_n 2, 1) := by decide +kernel
theorem dX12_lays_67 : decode cX12_lays 67 = .ok (.iconst 3, 1) := by decide +kernel
theorem dX12_lays_68 : decode cX12_lays 68 = .ok (.invokevirtual 438, 3) := by decide +kernel
theorem dX12_lays_71 : decode cX12_lays 71 = .ok (.iastore, 1) := by decide +kernel
theorem dX12_lays_72 : decode cX12_lays 72 = .ok (.return_, 1) := by decide +kernel
theorem dX12_isFree_0 : decode cX12_isFree 0 = .ok (.aload_n 0, 1) := by decide +kernel
theorem dX12_isFree_1 : decode cX12_isFree 1 = .ok (.iload_n 1, 1) := by decide +kernel
theorem dX12_isFree_2 : decode cX12_isFree 2 = .ok (.iload_n 2, 1) := by decide +kernel
theorem dX12_isFree_3 : decode cX12_isFree 3 = .ok (.iconst 0, 1) := by decide +kernel
theorem dX12_isFree_4 : decode cX12_isFree 4 = .ok (.invokevirtual 438, 3) := by decide +kernel
theorem dX12_isFree_7 : decode cX12_isFree 7 = .ok (.iconst 1, 1) := by decide +kernel
theorem dX12_isFree_8 : decode cX12_isFree 8 = .ok (.if_icmp .ne 17, 3) := by decide +kernel
theorem dX12_isFree_11 : decode cX12_isFree 11 = .ok (.aload_n 0, 1) := by decide +kernel
theorem dX12_isFree_12 : decode cX12_isFree 12 = .ok (.iload_n 1, 1) := by decide +kernel
theorem dX12_isFree_13 : decode cX12_isFree 13 = .ok (.iload_n 2, 1) := by decide +kernel
theorem dX12_isFree_14 : decode cX12_isFree 14 = .ok (.iconst 1, 1) := by decide +kernel
theorem dX12_isFree_15 : decode cX12_isFree 15 = .ok (.invokevirtual 438, 3) := by decide +kernel
theorem dX12_isFree_18 : decode cX12_isFree 18 = .ok (.ifCond .ne 7, 3) := by decide +kernel
theorem dX12_isFree_21 : decode cX12_isFree 21 = .ok (.iconst 1, 1) := by decide +kernel
theorem dX12_isFree_22 : decode cX12_isFree 22 = .ok (.goto 4, 3) := by decide +kernel
theorem dX12_isFree_25 : decode cX12_isFree 25 = .ok (.iconst 0, 1) := by decide +kernel
theorem dX12_isFree_26 : decode cX12_isFree 26 = .ok (.ireturn, 1) := by decide +kernel
theorem dX12_flyingOn_0 : decode cX12_flyingOn 0 = .ok (.iconst 0, 1) := by decide +kernel
theorem dX12_flyingOn_1 : decode cX12_flyingOn 1 = .ok (.istore_n 3, 1) := by decide +kernel
theorem dX12_flyingOn_2 : decode cX12_flyingOn 2 = .ok (.iconst 0, 1) := by decide +kernel
theorem dX12_flyingOn_3 : decode cX12_flyingOn 3 = .ok (.istore 4, 2) := by decide +kernel
theorem dX12_flyingOn_5 : decode cX12_flyingOn 5 = .ok (.iload 4, 2) := by decide +kernel
theorem dX12_flyingOn_7 : decode cX12_flyingOn 7 = .ok (.aload_n 0, 1) := by decide +kernel
theorem dX12_flyingOn_8 : decode cX12_flyingOn 8 = .ok (.iload_n 1, 1) := by decide +kernel
theorem dX12_flyingOn_9 : decode cX12_flyingOn 9 = .ok (.bipush 6, 2) := by decide +kernel
theorem dX12_flyingOn_11 : decode cX12_flyingOn 11 = .ok (.invokevirtual 402, 3) := by decide +kernel
theorem dX12_flyingOn_14 : decode cX12_flyingOn 14 = .ok (.if_icmp .ge 42, 3) := by decide +kernel
theorem dX12_flyingOn_17 : decode cX12_flyingOn 17 = .ok (.iload_n 3, 1) := by decide +kernel
theorem dX12_flyingOn_18 : decode cX12_flyingOn 18 = .ok (.aload_n 0, 1) := by decide +kernel
theorem dX12_flyingOn_19 : decode cX12_flyingOn 19 = .ok (.iload_n 1, 1) := by decide +kernel
theorem dX12_flyingOn_20 : decode cX12_flyingOn 20 = .ok (.iload 4, 2) := by decide +kernel
theorem dX12_flyingOn_22 : decode cX12_flyingOn 22 = .ok (.bipush 6, 2) := by decide +kernel
theorem dX12_flyingOn_24 : decode cX12_flyingOn 24 = .ok (.invokevirtual 445, 3) := by decide +kernel
theorem dX12_flyingOn_27 : decode cX12_flyingOn 27 = .ok (.iconst 1, 1) := by decide +kernel
theorem dX12_flyingOn_28 : decode cX12_flyingOn 28 = .ok (.if_icmp .ne 19, 3) := by decide +kernel
theorem dX12_flyingOn_31 : decode cX12_flyingOn 31 = .ok (.aload_n 0, 1) := by decide +kernel
theorem dX12_flyingOn_32 : decode cX12_flyingOn 32 = .ok (.iload_n 1, 1) := by decide +kernel
theorem dX12_flyingOn_33 : decode cX12_flyingOn 33 = .ok (.iload 4, 2) := by decide +kernel
theorem dX12_flyingOn_35 : decode cX12_flyingOn 35 = .ok (.iconst 0, 1) := by decide +kernel
theorem dX12_flyingOn_36 : decode cX12_flyingOn 36 = .ok (.invokevirtual 445, 3) := by decide +kernel
theorem dX12_flyingOn_39 : decode cX12_flyingOn 39 = .ok (.iload_n 2, 1) := by decide +kernel
theorem dX12_flyingOn_40 : decode cX12_flyingOn 40 = .ok (.if_icmp .ne 7, 3) := by decide +kernel
theorem dX12_flyingOn_43 : decode cX12_flyingOn 43 = .ok (.iconst 1, 1) := by decide +kernel
theorem dX12_flyingOn_44 : decode cX12_flyingOn 44 = .ok (.goto 4, 3) := by decide +kernel
theorem dX12_flyingOn_47 : decode cX12_flyingOn 47 = .ok (.iconst 0, 1) := by decide +kernel
theorem dX12_flyingOn_48 : decode cX12_flyingOn 48 = .ok (.iadd, 1) := by decide +kernel
theorem dX12_flyingOn_49 : decode cX12_flyingOn 49 = .ok (.istore_n 3, 1) := by decide +kernel
theorem dX12_flyingOn_50 : decode cX12_flyingOn 50 = .ok (.iinc 4 1, 3) := by decide +kernel
theorem dX12_flyingOn_53 : decode cX12_flyingOn 53 = .ok (.goto (-48), 3) := by decide +kernel
theorem dX12_flyingOn_56 : decode cX12_flyingOn 56 = .ok (.iload_n 3, 1) := by decide +kernel
theorem dX12_flyingOn_57 : decode cX12_flyingOn 57 = .ok (.ireturn, 1) := by decide +kernel
theorem dX12_waitOf_0 : decode cX12_waitOf 0 = .ok (.ldc2_w 448, 3) := by decide +kernel
theorem dX12_waitOf_3 : decode cX12_waitOf 3 = .ok (.aload_n 0, 1) := by decide +kernel
theorem dX12_waitOf_4 : decode cX12_waitOf 4 = .ok (.getfield 176, 3) := by decide +kernel
theorem dX12_waitOf_7 : decode cX12_waitOf 7 = .ok (.iload_n 2, 1) := by decide +kernel
theorem dX12_waitOf_8 : decode cX12_waitOf 8 = .ok (.iaload, 1) := by decide +kernel
theorem dX12_waitOf_9 : decode cX12_waitOf 9 = .ok (.i2l, 1) := by decide +kernel
theorem dX12_waitOf_10 : decode cX12_waitOf 10 = .ok (.lmul, 1) := by decide +kernel
theorem dX12_waitOf_11 : decode cX12_waitOf 11 = .ok (.ldc2_w 450, 3) := by decide +kernel
theorem dX12_waitOf_14 : decode cX12_waitOf 14 = .ok (.ladd, 1) := by decide +kernel
theorem dX12_waitOf_15 : decode cX12_waitOf 15 = .ok (.lstore_n 3, 1) := by decide +kernel
theorem dX12_waitOf_16 : decode cX12_waitOf 16 = .ok (.aload_n 0, 1) := by decide +kernel
theorem dX12_waitOf_17 : decode cX12_waitOf 17 = .ok (.iconst 3, 1) := by decide +kernel
theorem dX12_waitOf_18 : decode cX12_waitOf 18 = .ok (.invokevirtual 452, 3) := by decide +kernel
theorem dX12_waitOf_21 : decode cX12_waitOf 21 = .ok (.ifCond .eq 15, 3) := by decide +kernel
theorem dX12_waitOf_24 : decode cX12_waitOf 24 = .ok (.aload_n 0, 1) := by decide +kernel
theorem dX12_waitOf_25 : decode cX12_waitOf 25 = .ok (.iload_n 1, 1) := by decide +kernel
theorem dX12_waitOf_26 : decode cX12_waitOf 26 = .ok (.iload_n 2, 1) := by decide +kernel
theorem dX12_waitOf_27 : decode cX12_waitOf 27 = .ok (.invokevirtual 455, 3) := by decide +kernel
theorem dX12_waitOf_30 : decode cX12_waitOf 30 = .ok (.aload_n 0, 1) := by decide +kernel
theorem dX12_waitOf_31 : decode cX12_waitOf 31 = .ok (.iconst 3, 1) := by decide +kernel
theorem dX12_waitOf_32 : decode cX12_waitOf 32 = .ok (.invokevirtual 458, 3) := by decide +kernel
theorem dX12_waitOf_35 : decode cX12_waitOf 35 = .ok (.lstore_n 3, 1) := by decide +kernel
theorem dX12_waitOf_36 : decode cX12_waitOf 36 = .ok (.lload_n 3, 1) := by decide +kernel
theorem dX12_waitOf_37 : decode cX12_waitOf 37 = .ok (.lconst 1, 1) := by decide +kernel
theorem dX12_waitOf_38 : decode cX12_waitOf 38 = .ok (.lcmp, 1) := by decide +kernel
theorem dX12_waitOf_39 : decode cX12_waitOf 39 = .ok (.ifCond .ge 7, 3) := by decide +kernel
theorem dX12_waitOf_42 : decode cX12_waitOf 42 = .ok (.iconst 1, 1) := by decide +kernel
theorem dX12_waitOf_43 : decode cX12_waitOf 43 = .ok (.goto 18, 3) := by decide +kernel
theorem dX12_waitOf_46 : decode cX12_waitOf 46 = .ok (.lload_n 3, 1) := by decide +kernel
theorem dX12_waitOf_47 : decode cX12_waitOf 47 = .ok (.ldc2_w 462, 3) := by decide +kernel
theorem dX12_waitOf_50 : decode cX12_waitOf 50 = .ok (.lcmp, 1) := by decide +kernel
theorem dX12_waitOf_51 : decode cX12_waitOf 51 = .ok (.ifCond .le 8, 3) := by decide +kernel
theorem dX12_waitOf_54 : decode cX12_waitOf 54 = .ok (.bipush 99, 2) := by decide +kernel
theorem dX12_waitOf_56 : decode cX12_waitOf 56 = .ok (.goto 5, 3) := by decide +kernel
theorem dX12_waitOf_59 : decode cX12_waitOf 59 = .ok (.lload_n 3, 1) := by decide +kernel
theorem dX12_waitOf_60 : decode cX12_waitOf 60 = .ok (.l2i, 1) := by decide +kernel
theorem dX12_waitOf_61 : decode cX12_waitOf 61 = .ok (.ireturn, 1) := by decide +kernel
theorem dX12_writesDown_0 : decode cX12_writesDown 0 = .ok (.aload_n 0, 1) := by decide +kernel
theorem dX12_writesDown_1 : decode cX12_writesDown 1 = .ok (.iload_n 1, 1) := by decide +kernel
theorem dX12_writesDown_2 : decode cX12_writesDown 2 = .ok (.bipush 9, 2) := by decide +kernel
theorem dX12_writesDown_4 : decode cX12_writesDown 4 = .ok (.invokevirtual 402, 3) := by decide +kernel
theorem dX12_writesDown_7 : decode cX12_writesDown 7 = .ok (.bipush 40, 2) := by decide +kernel
theorem dX12_writesDown_9 : decode cX12_writesDown 9 = .ok (.if_icmp .ne 54, 3) := by decide +kernel
theorem dX12_writesDown_12 : decode cX12_writesDown 12 = .ok (.bipush 120, 2) := by decide +kernel
theorem dX12_writesDown_14 : decode cX12_writesDown 14 = .ok (.iload_n 1, 1) := by decide +kernel
theorem dX12_writesDown_15 : decode cX12_writesDown 15 = .ok (.imul, 1) := by decide +kernel
theorem dX12_writesDown_16 : decode cX12_writesDown 16 = .ok (.istore 5, 2) := by decide +kernel
theorem dX12_writesDown_18 : decode cX12_writesDown 18 = .ok (.iload 5, 2) := by decide +kernel
theorem dX12_writesDown_20 : decode cX12_writesDown 20 = .ok (.bipush 120, 2) := by decide +kernel
theorem dX12_writesDown_22 : decode cX12_writesDown 22 = .ok (.iload_n 1, 1) := by decide +kernel
theorem dX12_writesDown_23 : decode cX12_writesDown 23 = .ok (.imul, 1) := by decide +kernel
theorem dX12_writesDown_24 : decode cX12_writesDown 24 = .ok (.bipush 120, 2) := by decide +kernel
theorem dX12_writesDown_26 : decode cX12_writesDown 26 = .ok (.iadd, 1) := by decide +kernel
theorem dX12_writesDown_27 : decode cX12_writesDown 27 = .ok (.iconst 3, 1) := by decide +kernel
theorem dX12_writesDown_28 : decode cX12_writesDown 28 = .ok (.isub, 1) := by decide +kernel
theorem dX12_writesDown_29 : decode cX12_writesDown 29 = .ok (.if_icmp .ge 25, 3) := by decide +kernel
theorem dX12_writesDown_32 : decode cX12_writesDown 32 = .ok (.aload_n 0, 1) := by decide +kernel
theorem dX12_writesDown_33 : decode cX12_writesDown 33 = .ok (.getfield 161, 3) := by decide +kernel
theorem dX12_writesDown_36 : decode cX12_writesDown 36 = .ok (.iload 5, 2) := by decide +kernel
theorem dX12_writesDown_38 : decode cX12_writesDown 38 = .ok (.aload_n 0, 1) := by decide +kernel
theorem dX12_writesDown_39 : decode cX12_writesDown 39 = .ok (.getfield 161, 3) := by decide +kernel
theorem dX12_writesDown_42 : decode cX12_writesDown 42 = .ok (.iload 5, 2) := by decide +kernel
theorem dX12_writesDown_44 : decode cX12_writesDown 44 = .ok (.iconst 3, 1) := by decide +kernel
theorem dX12_writesDown_45 : decode cX12_writesDown 45 = .ok (.iadd, 1) := by decide +kernel
theorem dX12_writesDown_46 : decode cX12_writesDown 46 = .ok (.iaload, 1) := by decide +kernel
theorem dX12_writesDown_47 : decode cX12_writesDown 47 = .ok (.iastore, 1) := by decide +kernel
theorem dX12_writesDown_48 : decode cX12_writesDown 48 = .ok (.iinc 5 1, 3) := by decide +kernel
theorem dX12_writesDown_51 : decode cX12_writesDown 51 = .ok (.goto (-33), 3) := by decide +kernel
theorem dX12_writesDown_54 : decode cX12_writesDown 54 = .ok (.aload_n 0, 1) := by decide +kernel
theorem dX12_writesDown_55 : decode cX12_writesDown 55 = .ok (.iload_n 1, 1) := by decide +kernel
theorem dX12_writesDown_56 : decode cX12_writesDown 56 = .ok (.bipush 9, 2) := by decide +kernel
theorem dX12_writesDown_58 : decode cX12_writesDown 58 = .ok (.bipush 39, 2) := by decide +kernel
theorem dX12_writesDown_60 : decode cX12_writesDown 60 = .ok (.invokevirtual 405, 3) := by decide +kernel
theorem dX12_writesDown_63 : decode cX12_writesDown 63 = .ok (.iconst 3, 1) := by decide +kernel
theorem dX12_writesDown_64 : decode cX12_writesDown 64 = .ok (.bipush 40, 2) := by decide +kernel
theorem dX12_writesDown_66 : decode cX12_writesDown 66 = .ok (.iload_n 1, 1) := by decide +kernel
theorem dX12_writesDown_67 : decode cX12_writesDown 67 = .ok (.imul, 1) := by decide +kernel
theorem dX12_writesDown_68 : decode cX12_writesDown 68 = .ok (.aload_n 0, 1) := by decide +kernel
theorem dX12_writesDown_69 : decode cX12_writesDown 69 = .ok (.iload_n 1, 1) := by decide +kernel
theorem dX12_writesDown_70 : decode cX12_writesDown 70 = .ok (.bipush 9, 2) := by decide +kernel
theorem dX12_writesDown_72 : decode cX12_writesDown 72 = .ok (.invokevirtual 402, 3) := by decide +kernel
theorem dX12_writesDown_75 : decode cX12_writesDown 75 = .ok (.iadd, 1) := by decide +kernel
theorem dX12_writesDown_76 : decode cX12_writesDown 76 = .ok (.imul, 1) := by decide +kernel
theorem dX12_writesDown_77 : decode cX12_writesDown 77 = .ok (.istore 5, 2) := by decide +kernel
theorem dX12_writesDown_79 : decode cX12_writesDown 79 = .ok (.aload_n 0, 1) := by decide +kernel
theorem dX12_writesDown_80 : decode cX12_writesDown 80 = .ok (.getfield 161, 3) := by decide +kernel
theorem dX12_writesDown_83 : decode cX12_writesDown 83 = .ok (.iload 5, 2) := by decide +kernel
theorem dX12_writesDown_85 : decode cX12_writesDown 85 = .ok (.iload_n 2, 1) := by decide +kernel
theorem dX12_writesDown_86 : decode cX12_writesDown 86 = .ok (.iastore, 1) := by decide +kernel
theorem dX12_writesDown_87 : decode cX12_writesDown 87 = .ok (.aload_n 0, 1) := by decide +kernel
theorem dX12_writesDown_88 : decode cX12_writesDown 88 = .ok (.getfield 161, 3) := by decide +kernel
theorem dX12_writesDown_91 : decode cX12_writesDown 91 = .ok (.iload 5, 2) := by decide +kernel
theorem dX12_writesDown_93 : decode cX12_writesDown 93 = .ok (.iconst 1, 1) := by decide +kernel
theorem dX12_writesDown_94 : decode cX12_writesDown 94 = .ok (.iadd, 1) := by decide +kernel
theorem dX12_writesDown_95 : decode cX12_writesDown 95 = .ok (.iload_n 3, 1) := by decide +kernel
theorem dX12_writesDown_96 : decode cX12_writesDown 96 = .ok (.iastore, 1) := by decide +kernel
theorem dX12_writesDown_97 : decode cX12_writesDown 97 = .ok (.aload_n 0, 1) := by decide +kernel
theorem dX12_writesDown_98 : decode cX12_writesDown 98 = .ok (.getfield 161, 3) := by decide +kernel
theorem dX12_writesDown_101 : decode cX12_writesDown 101 = .ok (.iload 5, 2) := by decide +kernel
theorem dX12_writesDown_103 : decode cX12_writesDown 103 = .ok (.iconst 2, 1) := by decide +kernel
theorem dX12_writesDown_104 : decode cX12_writesDown 104 = .ok (.iadd, 1) := by decide +kernel
theorem dX12_writesDown_105 : decode cX12_writesDown 105 = .ok (.iload 4, 2) := by decide +kernel
theorem dX12_writesDown_107 : decode cX12_writesDown 107 = .ok (.iastore, 1) := by decide +kernel
theorem dX12_writesDown_108 : decode cX12_writesDown 108 = .ok (.aload_n 0, 1) := by decide +kernel
theorem dX12_writesDown_109 : decode cX12_writesDown 109 = .ok (.iload_n 1, 1) := by decide +kernel
theorem dX12_writesDown_110 : decode cX12_writesDown 110 = .ok (.bipush 9, 2) := by decide +kernel
theorem dX12_writesDown_112 : decode cX12_writesDown 112 = .ok (.aload_n 0, 1) := by decide +kernel
theorem dX12_writesDown_113 : decode cX12_writesDown 113 = .ok (.iload_n 1, 1) := by decide +kernel
theorem dX12_writesDown_114 : decode cX12_writesDown 114 = .ok (.bipush 9, 2) := by decide +kernel
theorem dX12_writesDown_116 : decode cX12_writesDown 116 = .ok (.invokevirtual 402, 3) := by decide +kernel
theorem dX12_writesDown_119 : decode cX12_writesDown 119 = .ok (.iconst 1, 1) := by decide +kernel
theorem dX12_writesDown_120 : decode cX12_writesDown 120 = .ok (.iadd, 1) := by decide +kernel
theorem dX12_writesDown_121 : decode cX12_writesDown 121 = .ok (.invokevirtual 405, 3) := by decide +kernel
theorem dX12_writesDown_124 : decode cX12_writesDown 124 = .ok (.return_, 1) := by decide +kernel
theorem dX12_refusesIn_0 : decode cX12_refusesIn 0 = .ok (.aload_n 0, 1) := by decide +kernel
theorem dX12_refusesIn_1 : decode cX12_refusesIn 1 = .ok (.iload_n 1, 1) := by decide +kernel
theorem dX12_refusesIn_2 : decode cX12_refusesIn 2 = .ok (.bipush 10, 2) := by decide +kernel
theorem dX12_refusesIn_4 : decode cX12_refusesIn 4 = .ok (.iload_n 2, 1) := by decide +kernel
theorem dX12_refusesIn_5 : decode cX12_refusesIn 5 = .ok (.iadd, 1) := by decide +kernel
theorem dX12_refusesIn_6 : decode cX12_refusesIn 6 = .ok (.aload_n 0, 1) := by decide +kernel
theorem dX12_refusesIn_7 : decode cX12_refusesIn 7 = .ok (.iload_n 1, 1) := by decide +kernel
theorem dX12_refusesIn_8 : decode cX12_refusesIn 8 = .ok (.bipush 10, 2) := by decide +kernel
theorem dX12_refusesIn_10 : decode cX12_refusesIn 10 = .ok (.iload_n 2, 1) := by decide +kernel
theorem dX12_refusesIn_11 : decode cX12_refusesIn 11 = .ok (.iadd, 1) := by decide +kernel
theorem dX12_refusesIn_12 : decode cX12_refusesIn 12 = .ok (.invokevirtual 402, 3) := by decide +kernel
theorem dX12_refusesIn_15 : decode cX12_refusesIn 15 = .ok (.iconst 1, 1) := by decide +kernel
theorem dX12_refusesIn_16 : decode cX12_refusesIn 16 = .ok (.iadd, 1) := by decide +kernel
theorem dX12_refusesIn_17 : decode cX12_refusesIn 17 = .ok (.invokevirtual 405, 3) := by decide +kernel
theorem dX12_refusesIn_20 : decode cX12_refusesIn 20 = .ok (.return_, 1) := by decide +kernel
theorem dX12_tokenFor_0 : decode cX12_tokenFor 0 = .ok (.bipush 31, 2) := by decide +kernel
theorem dX12_tokenFor_2 : decode cX12_tokenFor 2 = .ok (.iload_n 0, 1) := by decide +kernel
theorem dX12_tokenFor_3 : decode cX12_tokenFor 3 = .ok (.imul, 1) := by decide +kernel
theorem dX12_tokenFor_4 : decode cX12_tokenFor 4 = .ok (.bipush 17, 2) := by decide +kernel
theorem dX12_tokenFor_6 : decode cX12_tokenFor 6 = .ok (.iadd, 1) := by decide +kernel
theorem dX12_tokenFor_7 : decode cX12_tokenFor 7 = .ok (.sipush 1000, 3) := by decide +kernel
theorem dX12_tokenFor_10 : decode cX12_tokenFor 10 = .ok (.irem, 1) := by decide +kernel
theorem dX12_tokenFor_11 : decode cX12_tokenFor 11 = .ok (.ireturn, 1) := by decide +kernel
theorem dX12_isJoining_0 : decode cX12_isJoining 0 = .ok (.aload_n 0, 1) := by decide +kernel
theorem dX12_isJoining_1 : decode cX12_isJoining 1 = .ok (.iload_n 1, 1) := by decide +kernel
theorem dX12_isJoining_2 : decode cX12_isJoining 2 = .ok (.iload_n 2, 1) := by decide +kernel
theorem dX12_isJoining_3 : decode cX12_isJoining 3 = .ok (.iconst 0, 1) := by decide +kernel
theorem dX12_isJoining_4 : decode cX12_isJoining 4 = .ok (.invokevirtual 438, 3) := by decide +kernel
theorem dX12_isJoining_7 : decode cX12_isJoining 7 = .ok (.iconst 1, 1) := by decide +kernel
theorem dX12_isJoining_8 : decode cX12_isJoining 8 = .ok (.if_icmp .eq 30, 3) := by decide +kernel
theorem dX12_isJoining_11 : decode cX12_isJoining 11 = .ok (.aload_n 0, 1) := by decide +kernel
theorem dX12_isJoining_12 : decode cX12_isJoining 12 = .ok (.iload_n 1, 1) := by decide +kernel
theorem dX12_isJoining_13 : decode cX12_isJoining 13 = .ok (.iload_n 2, 1) := by decide +kernel
theorem dX12_isJoining_14 : decode cX12_isJoining 14 = .ok (.iconst 1, 1) := by decide +kernel
theorem dX12_isJoining_15 : decode cX12_isJoining 15 = .ok (.invokevirtual 438, 3) := by decide +kernel
theorem dX12_isJoining_18 : decode cX12_isJoining 18 = .ok (.iconst 1, 1) := by decide +kernel
theorem dX12_isJoining_19 : decode cX12_isJoining 19 = .ok (.if_icmp .eq 19, 3) := by decide +kernel
theorem dX12_isJoining_22 : decode cX12_isJoining 22 = .ok (.iload_n 3, 1) := by decide +kernel
theorem dX12_isJoining_23 : decode cX12_isJoining 23 = .ok (.aload_n 0, 1) := by decide +kernel
theorem dX12_isJoining_24 : decode cX12_isJoining 24 = .ok (.getfield 63, 3) := by decide +kernel
theorem dX12_isJoining_27 : decode cX12_isJoining 27 = .ok (.aload_n 0, 1) := by decide +kernel
theorem dX12_isJoining_28 : decode cX12_isJoining 28 = .ok (.getfield 51, 3) := by decide +kernel
theorem dX12_isJoining_31 : decode cX12_isJoining 31 = .ok (.iaload, 1) := by decide +kernel
theorem dX12_isJoining_32 : decode cX12_isJoining 32 = .ok (.invokestatic 464, 3) := by decide +kernel
theorem dX12_isJoining_35 : decode cX12_isJoining 35 = .ok (.if_icmp .eq 11, 3) := by decide +kernel
theorem dX12_isJoining_38 : decode cX12_isJoining 38 = .ok (.aload_n 0, 1) := by decide +kernel
theorem dX12_isJoining_39 : decode cX12_isJoining 39 = .ok (.iload_n 1, 1) := by decide +kernel
theorem dX12_isJoining_40 : decode cX12_isJoining 40 = .ok (.iconst 0, 1) := by decide +kernel
theorem dX12_isJoining_41 : decode cX12_isJoining 41 = .ok (.invokevirtual 467, 3) := by decide +kernel
theorem dX12_isJoining_44 : decode cX12_isJoining 44 = .ok (.iconst 0, 1) := by decide +kernel
theorem dX12_isJoining_45 : decode cX12_isJoining 45 = .ok (.ireturn, 1) := by decide +kernel
theorem dX12_isJoining_46 : decode cX12_isJoining 46 = .ok (.aload_n 0, 1) := by decide +kernel
theorem dX12_isJoining_47 : decode cX12_isJoining 47 = .ok (.iload_n 1, 1) := by decide +kernel
theorem dX12_isJoining_48 : decode cX12_isJoining 48 = .ok (.iload_n 2, 1) := by decide +kernel
theorem dX12_isJoining_49 : decode cX12_isJoining 49 = .ok (.invokevirtual 409, 3) := by decide +kernel
theorem dX12_isJoining_52 : decode cX12_isJoining 52 = .ok (.iconst 1, 1) := by decide +kernel
theorem dX12_isJoining_53 : decode cX12_isJoining 53 = .ok (.ireturn, 1) := by decide +kernel
theorem dX12_flyingAt_0 : decode cX12_flyingAt 0 = .ok (.iconst 0, 1) := by decide +kernel
theorem dX12_flyingAt_1 : decode cX12_flyingAt 1 = .ok (.istore 4, 2) := by decide +kernel
theorem dX12_flyingAt_3 : decode cX12_flyingAt 3 = .ok (.iload 4, 2) := by decide +kernel
theorem dX12_flyingAt_5 : decode cX12_flyingAt 5 = .ok (.aload_n 0, 1) := by decide +kernel
theorem dX12_flyingAt_6 : decode cX12_flyingAt 6 = .ok (.iload_n 1, 1) := by decide +kernel
theorem dX12_flyingAt_7 : decode cX12_flyingAt 7 = .ok (.bipush 6, 2) := by decide +kernel
theorem dX12_flyingAt_9 : decode cX12_flyingAt 9 = .ok (.invokevirtual 402, 3) := by decide +kernel
theorem dX12_flyingAt_12 : decode cX12_flyingAt 12 = .ok (.if_icmp .ge 49, 3) := by decide +kernel
theorem dX12_flyingAt_15 : decode cX12_flyingAt 15 = .ok (.aload_n 0, 1) := by decide +kernel
theorem dX12_flyingAt_16 : decode cX12_flyingAt 16 = .ok (.iload_n 1, 1) := by decide +kernel
theorem dX12_flyingAt_17 : decode cX12_flyingAt 17 = .ok (.iload 4, 2) := by decide +kernel
theorem dX12_flyingAt_19 : decode cX12_flyingAt 19 = .ok (.iconst 0, 1) := by decide +kernel
theorem dX12_flyingAt_20 : decode cX12_flyingAt 20 = .ok (.invokevirtual 445, 3) := by decide +kernel
theorem dX12_flyingAt_23 : decode cX12_flyingAt 23 = .ok (.iload_n 2, 1) := by decide +kernel
theorem dX12_flyingAt_24 : decode cX12_flyingAt 24 = .ok (.if_icmp .ne 31, 3) := by decide +kernel
theorem dX12_flyingAt_27 : decode cX12_flyingAt 27 = .ok (.aload_n 0, 1) := by decide +kernel
theorem dX12_flyingAt_28 : decode cX12_flyingAt 28 = .ok (.iload_n 1, 1) := by decide +kernel
theorem dX12_flyingAt_29 : decode cX12_flyingAt 29 = .ok (.iload 4, 2) := by decide +kernel
theorem dX12_flyingAt_31 : decode cX12_flyingAt 31 = .ok (.iconst 1, 1) := by decide +kernel
theorem dX12_flyingAt_32 : decode cX12_flyingAt 32 = .ok (.invokevirtual 445, 3) := by decide +kernel
theorem dX12_flyingAt_35 : decode cX12_flyingAt 35 = .ok (.iload_n 3, 1) := by decide +kernel
theorem dX12_flyingAt_36 : decode cX12_flyingAt 36 = .ok (.if_icmp .ne 19, 3) := by decide +kernel
theorem dX12_flyingAt_39 : decode cX12_flyingAt 39 = .ok (.aload_n 0, 1) := by decide +kernel
theorem dX12_flyingAt_40 : decode cX12_flyingAt 40 = .ok (.iload_n 1, 1) := by decide +kernel
theorem dX12_flyingAt_41 : decode cX12_flyingAt 41 = .ok (.iload 4, 2) := by decide +kernel
theorem dX12_flyingAt_43 : decode cX12_flyingAt 43 = .ok (.bipush 6, 2) := by decide +kernel
theorem dX12_flyingAt_45 : decode cX12_flyingAt 45 = .ok (.invokevirtual 445, 3) := by decide +kernel
theorem dX12_flyingAt_48 : decode cX12_flyingAt 48 = .ok (.iconst 1, 1) := by decide +kernel
theorem dX12_flyingAt_49 : decode cX12_flyingAt 49 = .ok (.if_icmp .ne 6, 3) := by decide +kernel
theorem dX12_flyingAt_52 : decode cX12_flyingAt 52 = .ok (.iload 4, 2) := by decide +kernel
theorem dX12_flyingAt_54 : decode cX12_flyingAt 54 = .ok (.ireturn, 1) := by decide +kernel
theorem dX12_flyingAt_55 : decode cX12_flyingAt 55 = .ok (.iinc 4 1, 3) := by decide +kernel
theorem dX12_flyingAt_58 : decode cX12_flyingAt 58 = .ok (.goto (-55), 3) := by decide +kernel
theorem dX12_flyingAt_61 : decode cX12_flyingAt 61 = .ok (.iconst (-1), 1) := by decide +kernel
theorem dX12_flyingAt_62 : decode cX12_flyingAt 62 = .ok (.ireturn, 1) := by decide +kernel
theorem dX12_grows_0 : decode cX12_grows 0 = .ok (.lconst 0, 1) := by decide +kernel
theorem dX12_grows_1 : decode cX12_grows 1 = .ok (.lstore_n 3, 1) := by decide +kernel
theorem dX12_grows_2 : decode cX12_grows 2 = .ok (.iconst 0, 1) := by decide +kernel
theorem dX12_grows_3 : decode cX12_grows 3 = .ok (.istore 5, 2) := by decide +kernel
theorem dX12_grows_5 : decode cX12_grows 5 = .ok (.iload 5, 2) := by decide +kernel
theorem dX12_grows_7 : decode cX12_grows 7 = .ok (.aload_n 0, 1) := by decide +kernel
theorem dX12_grows_8 : decode cX12_grows 8 = .ok (.getfield 66, 3) := by decide +kernel
theorem dX12_grows_11 : decode cX12_grows 11 = .ok (.aload_n 0, 1) := by decide +kernel
theorem dX12_grows_12 : decode cX12_grows 12 = .ok (.getfield 51, 3) := by decide +kernel
theorem dX12_grows_15 : decode cX12_grows 15 = .ok (.iaload, 1) := by decide +kernel
theorem dX12_grows_16 : decode cX12_grows 16 = .ok (.if_icmp .ge 35, 3) := by decide +kernel
theorem dX12_grows_19 : decode cX12_grows 19 = .ok (.lload_n 3, 1) := by decide +kernel
theorem dX12_grows_20 : decode cX12_grows 20 = .ok (.aload_n 0, 1) := by decide +kernel
theorem dX12_grows_21 : decode cX12_grows 21 = .ok (.iload_n 1, 1) := by decide +kernel
theorem dX12_grows_22 : decode cX12_grows 22 = .ok (.iload 5, 2) := by decide +kernel
theorem dX12_grows_24 : decode cX12_grows 24 = .ok (.invokevirtual 470, 3) := by decide +kernel
theorem dX12_grows_27 : decode cX12_grows 27 = .ok (.ifCond .eq 15, 3) := by decide +kernel
theorem dX12_grows_30 : decode cX12_grows 30 = .ok (.aload_n 0, 1) := by decide +kernel
theorem dX12_grows_31 : decode cX12_grows 31 = .ok (.iload_n 1, 1) := by decide +kernel
theorem dX12_grows_32 : decode cX12_grows 32 = .ok (.iload 5, 2) := by decide +kernel
theorem dX12_grows_34 : decode cX12_grows 34 = .ok (.iconst 2, 1) := by decide +kernel
theorem dX12_grows_35 : decode cX12_grows 35 = .ok (.invokevirtual 438, 3) := by decide +kernel
theorem dX12_grows_38 : decode cX12_grows 38 = .ok (.i2l, 1) := by decide +kernel
theorem dX12_grows_39 : decode cX12_grows 39 = .ok (.goto 4, 3) := by decide +kernel
theorem dX12_grows_42 : decode cX12_grows 42 = .ok (.lconst 0, 1) := by decide +kernel
theorem dX12_grows_43 : decode cX12_grows 43 = .ok (.ladd, 1) := by decide +kernel
theorem dX12_grows_44 : decode cX12_grows 44 = .ok (.lstore_n 3, 1) := by decide +kernel
theorem dX12_grows_45 : decode cX12_grows 45 = .ok (.iinc 5 1, 3) := by decide +kernel
theorem dX12_grows_48 : decode cX12_grows 48 = .ok (.goto (-43), 3) := by decide +kernel
theorem dX12_grows_51 : decode cX12_grows 51 = .ok (.aload_n 0, 1) := by decide +kernel
theorem dX12_grows_52 : decode cX12_grows 52 = .ok (.iload_n 1, 1) := by decide +kernel
theorem dX12_grows_53 : decode cX12_grows 53 = .ok (.iload_n 2, 1) := by decide +kernel
theorem dX12_grows_54 : decode cX12_grows 54 = .ok (.iconst 2, 1) := by decide +kernel
theorem dX12_grows_55 : decode cX12_grows 55 = .ok (.invokevirtual 438, 3) := by decide +kernel
theorem dX12_grows_58 : decode cX12_grows 58 = .ok (.i2l, 1) := by decide +kernel
theorem dX12_grows_59 : decode cX12_grows 59 = .ok (.ldc2_w 422, 3) := by decide +kernel
theorem dX12_grows_62 : decode cX12_grows 62 = .ok (.lload_n 3, 1) := by decide +kernel
theorem dX12_grows_63 : decode cX12_grows 63 = .ok (.ldiv, 1) := by decide +kernel
theorem dX12_grows_64 : decode cX12_grows 64 = .ok (.ladd, 1) := by decide +kernel
theorem dX12_grows_65 : decode cX12_grows 65 = .ok (.lstore 5, 2) := by decide +kernel
theorem dX12_grows_67 : decode cX12_grows 67 = .ok (.aload_n 0, 1) := by decide +kernel
theorem dX12_grows_68 : decode cX12_grows 68 = .ok (.iload_n 1, 1) := by decide +kernel
theorem dX12_grows_69 : decode cX12_grows 69 = .ok (.iload_n 2, 1) := by decide +kernel
theorem dX12_grows_70 : decode cX12_grows 70 = .ok (.iconst 2, 1) := by decide +kernel
theorem dX12_grows_71 : decode cX12_grows 71 = .ok (.lload 5, 2) := by decide +kernel
theorem dX12_grows_73 : decode cX12_grows 73 = .ok (.ldc2_w 473, 3) := by decide +kernel
theorem dX12_grows_76 : decode cX12_grows 76 = .ok (.lcmp, 1) := by decide +kernel
theorem dX12_grows_77 : decode cX12_grows 77 = .ok (.ifCond .le 9, 3) := by decide +kernel
theorem dX12_grows_80 : decode cX12_grows 80 = .ok (.ldc_w 475, 3) := by decide +kernel
theorem dX12_grows_83 : decode cX12_grows 83 = .ok (.goto 6, 3) := by decide +kernel
theorem dX12_grows_86 : decode cX12_grows 86 = .ok (.lload 5, 2) := by decide +kernel
theorem dX12_grows_88 : decode cX12_grows 88 = .ok (.l2i, 1) := by decide +kernel
theorem dX12_grows_89 : decode cX12_grows 89 = .ok (.invokevirtual 412, 3) := by decide +kernel
theorem dX12_grows_92 : decode cX12_grows 92 = .ok (.return_, 1) := by decide +kernel
theorem dX12_hears_0 : decode cX12_hears 0 = .ok (.iconst 0, 1) := by decide +kernel
theorem dX12_hears_1 : decode cX12_hears 1 = .ok (.istore_n 2, 1) := by decide +kernel
theorem dX12_hears_2 : decode cX12_hears 2 = .ok (.iconst 0, 1) := by decide +kernel
theorem dX12_hears_3 : decode cX12_hears 3 = .ok (.istore_n 3, 1) := by decide +kernel
theorem dX12_hears_4 : decode cX12_hears 4 = .ok (.iload_n 3, 1) := by decide +kernel
theorem dX12_hears_5 : decode cX12_hears 5 = .ok (.aload_n 0, 1) := by decide +kernel
theorem dX12_hears_6 : decode cX12_hears 6 = .ok (.iload_n 1, 1) := by decide +kernel
theorem dX12_hears_7 : decode cX12_hears 7 = .ok (.bipush 8, 2) := by decide +kernel
theorem dX12_hears_9 : decode cX12_hears 9 = .ok (.invokevirtual 402, 3) := by decide +kernel
theorem dX12_hears_12 : decode cX12_hears 12 = .ok (.if_icmp .ge 204, 3) := by decide +kernel
theorem dX12_hears_15 : decode cX12_hears 15 = .ok (.aload_n 0, 1) := by decide +kernel
theorem dX12_hears_16 : decode cX12_hears 16 = .ok (.iload_n 1, 1) := by decide +kernel
theorem dX12_hears_17 : decode cX12_hears 17 = .ok (.iload_n 3, 1) := by decide +kernel
theorem dX12_hears_18 : decode cX12_hears 18 = .ok (.iconst 4, 1) := by decide +kernel
theorem dX12_hears_19 : decode cX12_hears 19 = .ok (.invokevirtual 476, 3) := by decide +kernel
theorem dX12_hears_22 : decode cX12_hears 22 = .ok (.aload_n 0, 1) := by decide +kernel
theorem dX12_hears_23 : decode cX12_hears 23 = .ok (.iload_n 1, 1) := by decide +kernel
theorem dX12_hears_24 : decode cX12_hears 24 = .ok (.iconst 0, 1) := by decide +kernel
theorem dX12_hears_25 : decode cX12_hears 25 = .ok (.invokevirtual 402, 3) := by decide +kernel
theorem dX12_hears_28 : decode cX12_hears 28 = .ok (.if_icmp .eq 49, 3) := by decide +kernel
theorem dX12_hears_31 : decode cX12_hears 31 = .ok (.iconst 0, 1) := by decide +kernel
theorem dX12_hears_32 : decode cX12_hears 32 = .ok (.istore 4, 2) := by decide +kernel
theorem dX12_hears_34 : decode cX12_hears 34 = .ok (.iload 4, 2) := by decide +kernel
theorem dX12_hears_36 : decode cX12_hears 36 = .ok (.iconst 5, 1) := by decide +kernel
theorem dX12_hears_37 : decode cX12_hears 37 = .ok (.if_icmp .ge 34, 3) := by decide +kernel
theorem dX12_hears_40 : decode cX12_hears 40 = .ok (.aload_n 0, 1) := by decide +kernel
theorem dX12_hears_41 : decode cX12_hears 41 = .ok (.getfield 155, 3) := by decide +kernel
theorem dX12_hears_44 : decode cX12_hears 44 = .ok (.iconst 5, 1) := by decide +kernel
theorem dX12_hears_45 : decode cX12_hears 45 = .ok (.sipush 520, 3) := by decide +kernel
theorem dX12_hears_48 : decode cX12_hears 48 = .ok (.iload_n 1, 1) := by decide +kernel
theorem dX12_hears_49 : decode cX12_hears 49 = .ok (.imul, 1) := by decide +kernel
theorem dX12_hears_50 : decode cX12_hears 50 = .ok (.iload_n 2, 1) := by decide +kernel
theorem dX12_hears_51 : decode cX12_hears 51 = .ok (.iadd, 1) := by decide +kernel
theorem dX12_hears_52 : decode cX12_hears 52 = .ok (.imul, 1) := by decide +kernel
theorem dX12_hears_53 : decode cX12_hears 53 = .ok (.iload 4, 2) := by decide +kernel
theorem dX12_hears_55 : decode cX12_hears 55 = .ok (.iadd, 1) := by decide +kernel
theorem dX12_hears_56 : decode cX12_hears 56 = .ok (.aload_n 0, 1) := by decide +kernel
theorem dX12_hears_57 : decode cX12_hears 57 = .ok (.iload_n 1, 1) := by decide +kernel
theorem dX12_hears_58 : decode cX12_hears 58 = .ok (.iload_n 3, 1) := by decide +kernel
theorem dX12_hears_59 : decode cX12_hears 59 = .ok (.iload 4, 2) := by decide +kernel
theorem dX12_hears_61 : decode cX12_hears 61 = .ok (.invokevirtual 476, 3) := by decide +kernel
theorem dX12_hears_64 : decode cX12_hears 64 = .ok (.iastore, 1) := by decide +kernel
theorem dX12_hears_65 : decode cX12_hears 65 = .ok (.iinc 4 1, 3) := by decide +kernel
theorem dX12_hears_68 : decode cX12_hears 68 = .ok (.goto (-34), 3) := by decide +kernel
theorem dX12_hears_71 : decode cX12_hears 71 = .ok (.iinc 2 1, 3) := by decide +kernel
theorem dX12_hears_74 : decode cX12_hears 74 = .ok (.goto 136, 3) := by decide +kernel
theorem dX12_hears_77 : decode cX12_hears 77 = .ok (.aload_n 0, 1) := by decide +kernel
theorem dX12_hears_78 : decode cX12_hears 78 = .ok (.iload_n 1, 1) := by decide +kernel
theorem dX12_hears_79 : decode cX12_hears 79 = .ok (.iload_n 3, 1) := by decide +kernel
theorem dX12_hears_80 : decode cX12_hears 80 = .ok (.iconst 0, 1) := by decide +kernel
theorem dX12_hears_81 : decode cX12_hears 81 = .ok (.invokevirtual 476, 3) := by decide +kernel
theorem dX12_hears_84 : decode cX12_hears 84 = .ok (.istore 4, 2) := by decide +kernel
theorem dX12_hears_86 : decode cX12_hears 86 = .ok (.aload_n 0, 1) := by decide +kernel
theorem dX12_hears_87 : decode cX12_hears 87 = .ok (.iload_n 1, 1) := by decide +kernel
theorem dX12_hears_88 : decode cX12_hears 88 = .ok (.iload_n 3, 1) := by decide +kernel
theorem dX12_hears_89 : decode cX12_hears 89 = .ok (.iconst 2, 1) := by decide +kernel
theorem dX12_hears_90 : decode cX12_hears 90 = .ok (.invokevirtual 476, 3) := by decide +kernel
theorem dX12_hears_93 : decode cX12_hears 93 = .ok (.aload_n 0, 1) := by decide +kernel
theorem dX12_hears_94 : decode cX12_hears 94 = .ok (.iload_n 1, 1) := by decide +kernel
theorem dX12_hears_95 : decode cX12_hears 95 = .ok (.iconst 2, 1) := by decide +kernel
theorem dX12_hears_96 : decode cX12_hears 96 = .ok (.invokevirtual 402, 3) := by decide +kernel
theorem dX12_hears_99 : decode cX12_hears 99 = .ok (.if_icmp .le 16, 3) := by decide +kernel
theorem dX12_hears_102 : decode cX12_hears 102 = .ok (.aload_n 0, 1) := by decide +kernel
theorem dX12_hears_103 : decode cX12_hears 103 = .ok (.iload_n 1, 1) := by decide +kernel
theorem dX12_hears_104 : decode cX12_hears 104 = .ok (.iconst 2, 1) := by decide +kernel
theorem dX12_hears_105 : decode cX12_hears 105 = .ok (.aload_n 0, 1) := by decide +kernel
theorem dX12_hears_106 : decode cX12_hears 106 = .ok (.iload_n 1, 1) := by decide +kernel
theorem dX12_hears_107 : decode cX12_hears 107 = .ok (.iload_n 3, 1) := by decide +kernel
theorem dX12_hears_108 : decode cX12_hears 108 = .ok (.iconst 2, 1) := by decide +kernel
theorem dX12_hears_109 : decode cX12_hears 109 = .ok (.invokevirtual 476, 3) := by decide +kernel
theorem dX12_hears_112 : decode cX12_hears 112 = .ok (.invokevirtual 405, 3) := by decide +kernel
theorem dX12_hears_115 : decode cX12_hears 115 = .ok (.aload_n 0, 1) := by decide +kernel
theorem dX12_hears_116 : decode cX12_hears 116 = .ok (.iload_n 1, 1) := by decide +kernel
theorem dX12_hears_117 : decode cX12_hears 117 = .ok (.iload_n 3, 1) := by decide +kernel
theorem dX12_hears_118 : decode cX12_hears 118 = .ok (.iconst 3, 1) := by decide +kernel
theorem dX12_hears_119 : decode cX12_hears 119 = .ok (.invokevirtual 476, 3) := by decide +kernel
theorem dX12_hears_122 : decode cX12_hears 122 = .ok (.aload_n 0, 1) := by decide +kernel
theorem dX12_hears_123 : decode cX12_hears 123 = .ok (.iload_n 1, 1) := by decide +kernel
theorem dX12_hears_124 : decode cX12_hears 124 = .ok (.iconst 3, 1) := by decide +kernel
theorem dX12_hears_125 : decode cX12_hears 125 = .ok (.invokevirtual 402, 3) := by decide +kernel
theorem dX12_hears_128 : decode cX12_hears 128 = .ok (.if_icmp .le 16, 3) := by decide +kernel
theorem dX12_hears_131 : decode cX12_hears 131 = .ok (.aload_n 0, 1) := by decide +kernel
theorem dX12_hears_132 : decode cX12_hears 132 = .ok (.iload_n 1, 1) := by decide +kernel
theorem dX12_hears_133 : decode cX12_hears 133 = .ok (.iconst 3, 1) := by decide +kernel
theorem dX12_hears_134 : decode cX12_hears 134 = .ok (.aload_n 0, 1) := by decide +kernel
theorem dX12_hears_135 : decode cX12_hears 135 = .ok (.iload_n 1, 1) := by decide +kernel
theorem dX12_hears_136 : decode cX12_hears 136 = .ok (.iload_n 3, 1) := by decide +kernel
theorem dX12_hears_137 : decode cX12_hears 137 = .ok (.iconst 3, 1) := by decide +kernel
theorem dX12_hears_138 : decode cX12_hears 138 = .ok (.invokevirtual 476, 3) := by decide +kernel
theorem dX12_hears_141 : decode cX12_hears 141 = .ok (.invokevirtual 405, 3) := by decide +kernel
theorem dX12_hears_144 : decode cX12_hears 144 = .ok (.aload_n 0, 1) := by decide +kernel
theorem dX12_hears_145 : decode cX12_hears 145 = .ok (.iload_n 1, 1) := by decide +kernel
theorem dX12_hears_146 : decode cX12_hears 146 = .ok (.iload_n 3, 1) := by decide +kernel
theorem dX12_hears_147 : decode cX12_hears 147 = .ok (.iconst 1, 1) := by decide +kernel
theorem dX12_hears_148 : decode cX12_hears 148 = .ok (.invokevirtual 476, 3) := by decide +kernel
theorem dX12_hears_151 : decode cX12_hears 151 = .ok (.iconst (-1), 1) := by decide +kernel
theorem dX12_hears_152 : decode cX12_hears 152 = .ok (.if_icmp .ne 7, 3) := by decide +kernel
theorem dX12_hears_155 : decode cX12_hears 155 = .ok (.iconst (-1), 1) := by decide +kernel
theorem dX12_hears_156 : decode cX12_hears 156 = .ok (.goto 17, 3) := by decide +kernel
theorem dX12_hears_159 : decode cX12_hears 159 = .ok (.aload_n 0, 1) := by decide +kernel
theorem dX12_hears_160 : decode cX12_hears 160 = .ok (.iload_n 1, 1) := by decide +kernel
theorem dX12_hears_161 : decode cX12_hears 161 = .ok (.iload 4, 2) := by decide +kernel
theorem dX12_hears_163 : decode cX12_hears 163 = .ok (.aload_n 0, 1) := by decide +kernel
theorem dX12_hears_164 : decode cX12_hears 164 = .ok (.iload_n 1, 1) := by decide +kernel
theorem dX12_hears_165 : decode cX12_hears 165 = .ok (.iload_n 3, 1) := by decide +kernel
theorem dX12_hears_166 : decode cX12_hears 166 = .ok (.iconst 1, 1) := by decide +kernel
theorem dX12_hears_167 : decode cX12_hears 167 = .ok (.invokevirtual 476, 3) := by decide +kernel
theorem dX12_hears_170 : decode cX12_hears 170 = .ok (.invokevirtual 479, 3) := by decide +kernel
theorem dX12_hears_173 : decode cX12_hears 173 = .ok (.istore 5, 2) := by decide +kernel
theorem dX12_hears_175 : decode cX12_hears 175 = .ok (.iload 5, 2) := by decide +kernel
theorem dX12_hears_177 : decode cX12_hears 177 = .ok (.iconst (-1), 1) := by decide +kernel
theorem dX12_hears_178 : decode cX12_hears 178 = .ok (.if_icmp .ne 6, 3) := by decide +kernel
theorem dX12_hears_181 : decode cX12_hears 181 = .ok (.goto 29, 3) := by decide +kernel
theorem dX12_hears_184 : decode cX12_hears 184 = .ok (.aload_n 0, 1) := by decide +kernel
theorem dX12_hears_185 : decode cX12_hears 185 = .ok (.iload_n 1, 1) := by decide +kernel
theorem dX12_hears_186 : decode cX12_hears 186 = .ok (.iload 5, 2) := by decide +kernel
theorem dX12_hears_188 : decode cX12_hears 188 = .ok (.bipush 6, 2) := by decide +kernel
theorem dX12_hears_190 : decode cX12_hears 190 = .ok (.iconst 0, 1) := by decide +kernel
theorem dX12_hears_191 : decode cX12_hears 191 = .ok (.invokevirtual 482, 3) := by decide +kernel
theorem dX12_hears_194 : decode cX12_hears 194 = .ok (.aload_n 0, 1) := by decide +kernel
theorem dX12_hears_195 : decode cX12_hears 195 = .ok (.iload_n 1, 1) := by decide +kernel
theorem dX12_hears_196 : decode cX12_hears 196 = .ok (.iload 4, 2) := by decide +kernel
theorem dX12_hears_198 : decode cX12_hears 198 = .ok (.iconst 3, 1) := by decide +kernel
theorem dX12_hears_199 : decode cX12_hears 199 = .ok (.iconst 0, 1) := by decide +kernel
theorem dX12_hears_200 : decode cX12_hears 200 = .ok (.invokevirtual 412, 3) := by decide +kernel
theorem dX12_hears_203 : decode cX12_hears 203 = .ok (.aload_n 0, 1) := by decide +kernel
theorem dX12_hears_204 : decode cX12_hears 204 = .ok (.iload_n 1, 1) := by decide +kernel
theorem dX12_hears_205 : decode cX12_hears 205 = .ok (.iload 4, 2) := by decide +kernel
theorem dX12_hears_207 : decode cX12_hears 207 = .ok (.invokevirtual 485, 3) := by decide +kernel
theorem dX12_hears_210 : decode cX12_hears 210 = .ok (.iinc 3 1, 3) := by decide +kernel
theorem dX12_hears_213 : decode cX12_hears 213 = .ok (.goto (-209), 3) := by decide +kernel
theorem dX12_hears_216 : decode cX12_hears 216 = .ok (.aload_n 0, 1) := by decide +kernel
theorem dX12_hears_217 : decode cX12_hears 217 = .ok (.iload_n 1, 1) := by decide +kernel
theorem dX12_hears_218 : decode cX12_hears 218 = .ok (.bipush 8, 2) := by decide +kernel
theorem dX12_hears_220 : decode cX12_hears 220 = .ok (.iload_n 2, 1) := by decide +kernel
theorem dX12_hears_221 : decode cX12_hears 221 = .ok (.invokevirtual 405, 3) := by decide +kernel
theorem dX12_hears_224 : decode cX12_hears 224 = .ok (.return_, 1) := by decide +kernel
theorem dX12_areTaken_0 : decode cX12_areTaken 0 = .ok (.iconst 1, 1) := by decide +kernel
theorem dX12_areTaken_1 : decode cX12_areTaken 1 = .ok (.istore 4, 2) := by decide +kernel
theorem dX12_areTaken_3 : decode cX12_areTaken 3 = .ok (.aload_n 0, 1) := by decide +kernel
theorem dX12_areTaken_4 : decode cX12_areTaken 4 = .ok (.iload_n 1, 1) := by decide +kernel
theorem dX12_areTaken_5 : decode cX12_areTaken 5 = .ok (.iload_n 2, 1) := by decide +kernel
theorem dX12_areTaken_6 : decode cX12_areTaken 6 = .ok (.iconst 2, 1) := by decide +kernel
theorem dX12_areTaken_7 : decode cX12_areTaken 7 = .ok (.invokevirtual 445, 3) := by decide +kernel
theorem dX12_areTaken_10 : decode cX12_areTaken 10 = .ok (.istore 5, 2) := by decide +kernel
theorem dX12_areTaken_12 : decode cX12_areTaken 12 = .ok (.iload 5, 2) := by decide +kernel
theorem dX12_areTaken_14 : decode cX12_areTaken 14 = .ok (.aload_n 0, 1) := by decide +kernel
theorem dX12_areTaken_15 : decode cX12_areTaken 15 = .ok (.iload_n 1, 1) := by decide +kernel
theorem dX12_areTaken_16 : decode cX12_areTaken 16 = .ok (.iload_n 2, 1) := by decide +kernel
theorem dX12_areTaken_17 : decode cX12_areTaken 17 = .ok (.iconst 2, 1) := by decide +kernel
theorem dX12_areTaken_18 : decode cX12_areTaken 18 = .ok (.invokevirtual 445, 3) := by decide +kernel
theorem dX12_areTaken_21 : decode cX12_areTaken 21 = .ok (.aload_n 0, 1) := by decide +kernel
theorem dX12_areTaken_22 : decode cX12_areTaken 22 = .ok (.iload_n 1, 1) := by decide +kernel
theorem dX12_areTaken_23 : decode cX12_areTaken 23 = .ok (.iload_n 2, 1) := by decide +kernel
theorem dX12_areTaken_24 : decode cX12_areTaken 24 = .ok (.iconst 3, 1) := by decide +kernel
theorem dX12_areTaken_25 : decode cX12_areTaken 25 = .ok (.invokevirtual 445, 3) := by decide +kernel
theorem dX12_areTaken_28 : decode cX12_areTaken 28 = .ok (.iadd, 1) := by decide +kernel
theorem dX12_areTaken_29 : decode cX12_areTaken 29 = .ok (.if_icmp .ge 54, 3) := by decide +kernel
theorem dX12_areTaken_32 : decode cX12_areTaken 32 = .ok (.iload 4, 2) := by decide +kernel
theorem dX12_areTaken_34 : decode cX12_areTaken 34 = .ok (.aload_n 0, 1) := by decide +kernel
theorem dX12_areTaken_35 : decode cX12_areTaken 35 = .ok (.getfield 158, 3) := by decide +kernel
theorem dX12_areTaken_38 : decode cX12_areTaken 38 = .ok (.sipush 200, 3) := by decide +kernel
theorem dX12_areTaken_41 : decode cX12_areTaken 41 = .ok (.iload_n 1, 1) := by decide +kernel
theorem dX12_areTaken_42 : decode cX12_areTaken 42 = .ok (.imul, 1) := by decide +kernel
theorem dX12_areTaken_43 : decode cX12_areTaken 43 = .ok (.iload 5, 2) := by decide +kernel
theorem dX12_areTaken_45 : decode cX12_areTaken 45 = .ok (.iadd, 1) := by decide +kernel
theorem dX12_areTaken_46 : decode cX12_areTaken 46 = .ok (.iaload, 1) := by decide +kernel
theorem dX12_areTaken_47 : decode cX12_areTaken 47 = .ok (.iconst 1, 1) := by decide +kernel
theorem dX12_areTaken_48 : decode cX12_areTaken 48 = .ok (.if_icmp .ne 7, 3) := by decide +kernel
theorem dX12_areTaken_51 : decode cX12_areTaken 51 = .ok (.iconst 1, 1) := by decide +kernel
theorem dX12_areTaken_52 : decode cX12_areTaken 52 = .ok (.goto 4, 3) := by decide +kernel
theorem dX12_areTaken_55 : decode cX12_areTaken 55 = .ok (.iconst 0, 1) := by decide +kernel
theorem dX12_areTaken_56 : decode cX12_areTaken 56 = .ok (.iand, 1) := by decide +kernel
theorem dX12_areTaken_57 : decode cX12_areTaken 57 = .ok (.istore 4, 2) := by decide +kernel
theorem dX12_areTaken_59 : decode cX12_areTaken 59 = .ok (.iload_n 3, 1) := by decide +kernel
theorem dX12_areTaken_60 : decode cX12_areTaken 60 = .ok (.ifCond .eq 17, 3) := by decide +kernel
theorem dX12_areTaken_63 : decode cX12_areTaken 63 = .ok (.aload_n 0, 1) := by decide +kernel
theorem dX12_areTaken_64 : decode cX12_areTaken 64 = .ok (.getfield 158, 3) := by decide +kernel
theorem dX12_areTaken_67 : decode cX12_areTaken 67 = .ok (.sipush 200, 3) := by decide +kernel
theorem dX12_areTaken_70 : decode cX12_areTaken 70 = .ok (.iload_n 1, 1) := by decide +kernel
theorem dX12_areTaken_71 : decode cX12_areTaken 71 = .ok (.imul, 1) := by decide +kernel
theorem dX12_areTaken_72 : decode cX12_areTaken 72 = .ok (.iload 5, 2) := by decide +kernel
theorem dX12_areTaken_74 : decode cX12_areTaken 74 = .ok (.iadd, 1) := by decide +kernel
theorem dX12_areTaken_75 : decode cX12_areTaken 75 = .ok (.iconst 1, 1) := by decide +kernel
theorem dX12_areTaken_76 : decode cX12_areTaken 76 = .ok (.iastore, 1) := by decide +kernel
theorem dX12_areTaken_77 : decode cX12_areTaken 77 = .ok (.iinc 5 1, 3) := by decide +kernel
theorem dX12_areTaken_80 : decode cX12_areTaken 80 = .ok (.goto (-68), 3) := by decide +kernel
theorem dX12_areTaken_83 : decode cX12_areTaken 83 = .ok (.iload 4, 2) := by decide +kernel
theorem dX12_areTaken_85 : decode cX12_areTaken 85 = .ok (.ireturn, 1) := by decide +kernel
theorem dX12_arrives_0 : decode cX12_arrives 0 = .ok (.aload_n 0, 1) := by decide +kernel
theorem dX12_arrives_1 : decode cX12_arrives 1 = .ok (.iconst 0, 1) := by decide +kernel
theorem dX12_arrives_2 : decode cX12_arrives 2 = .ok (.putfield 188, 3) := by decide +kernel
theorem dX12_arrives_5 : decode cX12_arrives 5 = .ok (.aload_n 0, 1) := by decide +kernel
theorem dX12_arrives_6 : decode cX12_arrives 6 = .ok (.iconst 0, 1) := by decide +kernel
theorem dX12_arrives_7 : decode cX12_arrives 7 = .ok (.putfield 194, 3) := by decide +kernel
theorem dX12_arrives_10 : decode cX12_arrives 10 = .ok (.iconst 0, 1) := by decide +kernel
theorem dX12_arrives_11 : decode cX12_arrives 11 = .ok (.istore_n 2, 1) := by decide +kernel
theorem dX12_arrives_12 : decode cX12_arrives 12 = .ok (.iload_n 2, 1) := by decide +kernel
theorem dX12_arrives_13 : decode cX12_arrives 13 = .ok (.aload_n 0, 1) := by decide +kernel
theorem dX12_arrives_14 : decode cX12_arrives 14 = .ok (.iload_n 1, 1) := by decide +kernel
theorem dX12_arrives_15 : decode cX12_arrives 15 = .ok (.bipush 6, 2) := by decide +kernel
theorem dX12_arrives_17 : decode cX12_arrives 17 = .ok (.invokevirtual 402, 3) := by decide +kernel
theorem dX12_arrives_20 : decode cX12_arrives 20 = .ok (.if_icmp .ge 168, 3) := by decide +kernel
theorem dX12_arrives_23 : decode cX12_arrives 23 = .ok (.aload_n 0, 1) := by decide +kernel
theorem dX12_arrives_24 : decode cX12_arrives 24 = .ok (.iload_n 1, 1) := by decide +kernel
theorem dX12_arrives_25 : decode cX12_arrives 25 = .ok (.iload_n 2, 1) := by decide +kernel
theorem dX12_arrives_26 : decode cX12_arrives 26 = .ok (.iconst 5, 1) := by decide +kernel
theorem dX12_arrives_27 : decode cX12_arrives 27 = .ok (.invokevirtual 445, 3) := by decide +kernel
theorem dX12_arrives_30 : decode cX12_arrives 30 = .ok (.aload_n 0, 1) := by decide +kernel
theorem dX12_arrives_31 : decode cX12_arrives 31 = .ok (.iload_n 1, 1) := by decide +kernel
theorem dX12_arrives_32 : decode cX12_arrives 32 = .ok (.iconst 0, 1) := by decide +kernel
theorem dX12_arrives_33 : decode cX12_arrives 33 = .ok (.invokevirtual 402, 3) := by decide +kernel
theorem dX12_arrives_36 : decode cX12_arrives 36 = .ok (.if_icmp .eq 6, 3) := by decide +kernel
theorem dX12_arrives_39 : decode cX12_arrives 39 = .ok (.goto 143, 3) := by decide +kernel
theorem dX12_arrives_42 : decode cX12_arrives 42 = .ok (.aload_n 0, 1) := by decide +kernel
theorem dX12_arrives_43 : decode cX12_arrives 43 = .ok (.iload_n 1, 1) := by decide +kernel
theorem dX12_arrives_44 : decode cX12_arrives 44 = .ok (.iload_n 2, 1) := by decide +kernel
theorem dX12_arrives_45 : decode cX12_arrives 45 = .ok (.iconst 5, 1) := by decide +kernel
theorem dX12_arrives_46 : decode cX12_arrives 46 = .ok (.iconst (-1), 1) := by decide +kernel
theorem dX12_arrives_47 : decode cX12_arrives 47 = .ok (.invokevirtual 482, 3) := by decide +kernel
theorem dX12_arrives_50 : decode cX12_arrives 50 = .ok (.aload_n 0, 1) := by decide +kernel
theorem dX12_arrives_51 : decode cX12_arrives 51 = .ok (.iload_n 1, 1) := by decide +kernel
theorem dX12_arrives_52 : decode cX12_arrives 52 = .ok (.iload_n 2, 1) := by decide +kernel
theorem dX12_arrives_53 : decode cX12_arrives 53 = .ok (.bipush 7, 2) := by decide +kernel
theorem dX12_arrives_55 : decode cX12_arrives 55 = .ok (.invokevirtual 445, 3) := by decide +kernel
theorem dX12_arrives_58 : decode cX12_arrives 58 = .ok (.iconst 1, 1) := by decide +kernel
theorem dX12_arrives_59 : decode cX12_arrives 59 = .ok (.if_icmp .ne 38, 3) := by decide +kernel
theorem dX12_arrives_62 : decode cX12_arrives 62 = .ok (.aload_n 0, 1) := by decide +kernel
theorem dX12_arrives_63 : decode cX12_arrives 63 = .ok (.iload_n 1, 1) := by decide +kernel
theorem dX12_arrives_64 : decode cX12_arrives 64 = .ok (.iconst 1, 1) := by decide +kernel
theorem dX12_arrives_65 : decode cX12_arrives 65 = .ok (.invokevirtual 467, 3) := by decide +kernel
theorem dX12_arrives_68 : decode cX12_arrives 68 = .ok (.aload_n 0, 1) := by decide +kernel
theorem dX12_arrives_69 : decode cX12_arrives 69 = .ok (.getfield 191, 3) := by decide +kernel
theorem dX12_arrives_72 : decode cX12_arrives 72 = .ok (.aload_n 0, 1) := by decide +kernel
theorem dX12_arrives_73 : decode cX12_arrives 73 = .ok (.getfield 194, 3) := by decide +kernel
theorem dX12_arrives_76 : decode cX12_arrives 76 = .ok (.aload_n 0, 1) := by decide +kernel
theorem dX12_arrives_77 : decode cX12_arrives 77 = .ok (.iload_n 1, 1) := by decide +kernel
theorem dX12_arrives_78 : decode cX12_arrives 78 = .ok (.iload_n 2, 1) := by decide +kernel
theorem dX12_arrives_79 : decode cX12_arrives 79 = .ok (.iconst 0, 1) := by decide +kernel
theorem dX12_arrives_80 : decode cX12_arrives 80 = .ok (.invokevirtual 445, 3) := by decide +kernel
theorem dX12_arrives_83 : decode cX12_arrives 83 = .ok (.iastore, 1) := by decide +kernel
theorem dX12_arrives_84 : decode cX12_arrives 84 = .ok (.aload_n 0, 1) := by decide +kernel
theorem dX12_arrives_85 : decode cX12_arrives 85 = .ok (.dup, 1) := by decide +kernel
theorem dX12_arrives_86 : decode cX12_arrives 86 = .ok (.getfield 194, 3) := by decide +kernel
theorem dX12_arrives_89 : decode cX12_arrives 89 = .ok (.iconst 1, 1) := by decide +kernel
theorem dX12_arrives_90 : decode cX12_arrives 90 = .ok (.iadd, 1) := by decide +kernel
theorem dX12_arrives_91 : decode cX12_arrives 91 = .ok (.putfield 194, 3) := by decide +kernel
theorem dX12_arrives_94 : decode cX12_arrives 94 = .ok (.goto 88, 3) := by decide +kernel
theorem dX12_arrives_97 : decode cX12_arrives 97 = .ok (.aload_n 0, 1) := by decide +kernel
theorem dX12_arrives_98 : decode cX12_arrives 98 = .ok (.getfield 185, 3) := by decide +kernel
theorem dX12_arrives_101 : decode cX12_arrives 101 = .ok (.aload_n 0, 1) := by decide +kernel
theorem dX12_arrives_102 : decode cX12_arrives 102 = .ok (.getfield 188, 3) := by decide +kernel
theorem dX12_arrives_105 : decode cX12_arrives 105 = .ok (.iload_n 2, 1) := by decide +kernel
theorem dX12_arrives_106 : decode cX12_arrives 106 = .ok (.iastore, 1) := by decide +kernel
theorem dX12_arrives_107 : decode cX12_arrives 107 = .ok (.aload_n 0, 1) := by decide +kernel
theorem dX12_arrives_108 : decode cX12_arrives 108 = .ok (.dup, 1) := by decide +kernel
theorem dX12_arrives_109 : decode cX12_arrives 109 = .ok (.getfield 188, 3) := by decide +kernel
theorem dX12_arrives_112 : decode cX12_arrives 112 = .ok (.iconst 1, 1) := by decide +kernel
theorem dX12_arrives_113 : decode cX12_arrives 113 = .ok (.iadd, 1) := by decide +kernel
theorem dX12_arrives_114 : decode cX12_arrives 114 = .ok (.putfield 188, 3) := by decide +kernel
theorem dX12_arrives_117 : decode cX12_arrives 117 = .ok (.aload_n 0, 1) := by decide +kernel
theorem dX12_arrives_118 : decode cX12_arrives 118 = .ok (.iload_n 1, 1) := by decide +kernel
theorem dX12_arrives_119 : decode cX12_arrives 119 = .ok (.iload_n 2, 1) := by decide +kernel
theorem dX12_arrives_120 : decode cX12_arrives 120 = .ok (.iconst 2, 1) := by decide +kernel
theorem dX12_arrives_121 : decode cX12_arrives 121 = .ok (.invokevirtual 445, 3) := by decide +kernel
theorem dX12_arrives_124 : decode cX12_arrives 124 = .ok (.aload_n 0, 1) := by decide +kernel
theorem dX12_arrives_125 : decode cX12_arrives 125 = .ok (.iload_n 1, 1) := by decide +kernel
theorem dX12_arrives_126 : decode cX12_arrives 126 = .ok (.iload_n 2, 1) := by decide +kernel
theorem dX12_arrives_127 : decode cX12_arrives 127 = .ok (.iconst 3, 1) := by decide +kernel
theorem dX12_arrives_128 : decode cX12_arrives 128 = .ok (.invokevirtual 445, 3) := by decide +kernel
theorem dX12_arrives_131 : decode cX12_arrives 131 = .ok (.iadd, 1) := by decide +kernel
theorem dX12_arrives_132 : decode cX12_arrives 132 = .ok (.aload_n 0, 1) := by decide +kernel
theorem dX12_arrives_133 : decode cX12_arrives 133 = .ok (.iload_n 1, 1) := by decide +kernel
theorem dX12_arrives_134 : decode cX12_arrives 134 = .ok (.iconst 4, 1) := by decide +kernel
theorem dX12_arrives_135 : decode cX12_arrives 135 = .ok (.invokevirtual 402, 3) := by decide +kernel
theorem dX12_arrives_138 : decode cX12_arrives 138 = .ok (.aload_n 0, 1) := by decide +kernel
theorem dX12_arrives_139 : decode cX12_arrives 139 = .ok (.getfield 173, 3) := by decide +kernel
theorem dX12_arrives_142 : decode cX12_arrives 142 = .ok (.iadd, 1) := by decide +kernel
theorem dX12_arrives_143 : decode cX12_arrives 143 = .ok (.if_icmp .le 12, 3) := by decide +kernel
theorem dX12_arrives_146 : decode cX12_arrives 146 = .ok (.aload_n 0, 1) := by decide +kernel
theorem dX12_arrives_147 : decode cX12_arrives 147 = .ok (.iload_n 1, 1) := by decide +kernel
theorem dX12_arrives_148 : decode cX12_arrives 148 = .ok (.iconst 2, 1) := by decide +kernel
theorem dX12_arrives_149 : decode cX12_arrives 149 = .ok (.invokevirtual 467, 3) := by decide +kernel
theorem dX12_arrives_152 : decode cX12_arrives 152 = .ok (.goto 30, 3) := by decide +kernel
theorem dX12_arrives_155 : decode cX12_arrives 155 = .ok (.aload_n 0, 1) := by decide +kernel
theorem dX12_arrives_156 : decode cX12_arrives 156 = .ok (.iload_n 1, 1) := by decide +kernel
theorem dX12_arrives_157 : decode cX12_arrives 157 = .ok (.iload_n 2, 1) := by decide +kernel
theorem dX12_arrives_158 : decode cX12_arrives 158 = .ok (.iconst 0, 1) := by decide +kernel
theorem dX12_arrives_159 : decode cX12_arrives 159 = .ok (.invokevirtual 488, 3) := by decide +kernel
theorem dX12_arrives_162 : decode cX12_arrives 162 = .ok (.ifCond .eq 12, 3) := by decide +kernel
theorem dX12_arrives_165 : decode cX12_arrives 165 = .ok (.aload_n 0, 1) := by decide +kernel
theorem dX12_arrives_166 : decode cX12_arrives 166 = .ok (.iload_n 1, 1) := by decide +kernel
theorem dX12_arrives_167 : decode cX12_arrives 167 = .ok (.iconst 3, 1) := by decide +kernel
theorem dX12_arrives_168 : decode cX12_arrives 168 = .ok (.invokevirtual 467, 3) := by decide +kernel
theorem dX12_arrives_171 : decode cX12_arrives 171 = .ok (.goto 11, 3) := by decide +kernel
theorem dX12_arrives_174 : decode cX12_arrives 174 = .ok (.aload_n 0, 1) := by decide +kernel
theorem dX12_arrives_175 : decode cX12_arrives 175 = .ok (.iload_n 1, 1) := by decide +kernel
theorem dX12_arrives_176 : decode cX12_arrives 176 = .ok (.iload_n 2, 1) := by decide +kernel
theorem dX12_arrives_177 : decode cX12_arrives 177 = .ok (.iconst 1, 1) := by decide +kernel
theorem dX12_arrives_178 : decode cX12_arrives 178 = .ok (.invokevirtual 488, 3) := by decide +kernel
theorem dX12_arrives_181 : decode cX12_arrives 181 = .ok (.pop, 1) := by decide +kernel
theorem dX12_arrives_182 : decode cX12_arrives 182 = .ok (.iinc 2 1, 3) := by decide +kernel
theorem dX12_arrives_185 : decode cX12_arrives 185 = .ok (.goto (-173), 3) := by decide +kernel
theorem dX12_arrives_188 : decode cX12_arrives 188 = .ok (.return_, 1) := by decide +kernel
theorem dX12_firstLacking_0 : decode cX12_firstLacking 0 = .ok (.aload_n 0, 1) := by decide +kernel
theorem dX12_firstLacking_1 : decode cX12_firstLacking 1 = .ok (.iload_n 1, 1) := by decide +kernel
theorem dX12_firstLacking_2 : decode cX12_firstLacking 2 = .ok (.iconst 4, 1) := by decide +kernel
theorem dX12_firstLacking_3 : decode cX12_firstLacking 3 = .ok (.invokevirtual 402, 3) := by decide +kernel
theorem dX12_firstLacking_6 : decode cX12_firstLacking 6 = .ok (.istore_n 2, 1) := by decide +kernel
theorem dX12_firstLacking_7 : decode cX12_firstLacking 7 = .ok (.iload_n 2, 1) := by decide +kernel
theorem dX12_firstLacking_8 : decode cX12_firstLacking 8 = .ok (.aload_n 0, 1) := by decide +kernel
theorem dX12_firstLacking_9 : decode cX12_firstLacking 9 = .ok (.getfield 54, 3) := by decide +kernel
theorem dX12_firstLacking_12 : decode cX12_firstLacking 12 = .ok (.aload_n 0, 1) := by decide +kernel
theorem dX12_firstLacking_13 : decode cX12_firstLacking 13 = .ok (.getfield 51, 3) := by decide +kernel
theorem dX12_firstLacking_16 : decode cX12_firstLacking 16 = .ok (.iaload, 1) := by decide +kernel
theorem dX12_firstLacking_17 : decode cX12_firstLacking 17 = .ok (.if_icmp .ge 25, 3) := by decide +kernel
theorem dX12_firstLacking_20 : decode cX12_firstLacking 20 = .ok (.aload_n 0, 1) := by decide +kernel
theorem dX12_firstLacking_21 : decode cX12_firstLacking 21 = .ok (.getfield 158, 3) := by decide +kernel
theorem dX12_firstLacking_24 : decode cX12_firstLacking 24 = .ok (.sipush 200, 3) := by decide +kernel
theorem dX12_firstLacking_27 : decode cX12_firstLacking 27 = .ok (.iload_n 1, 1) := by decide +kernel
theorem dX12_firstLacking_28 : decode cX12_firstLacking 28 = .ok (.imul, 1) := by decide +kernel
theorem dX12_firstLacking_29 : decode cX12_firstLacking 29 = .ok (.iload_n 2, 1) := by decide +kernel
theorem dX12_firstLacking_30 : decode cX12_firstLacking 30 = .ok (.iadd, 1) := by decide +kernel
theorem dX12_firstLacking_31 : decode cX12_firstLacking 31 = .ok (.iaload, 1) := by decide +kernel
theorem dX12_firstLacking_32 : decode cX12_firstLacking 32 = .ok (.iconst 1, 1) := by decide +kernel
theorem dX12_firstLacking_33 : decode cX12_firstLacking 33 = .ok (.if_icmp .ne 9, 3) := by decide +kernel
theorem dX12_firstLacking_36 : decode cX12_firstLacking 36 = .ok (.iinc 2 1, 3) := by decide +kernel
theorem dX12_firstLacking_39 : decode cX12_firstLacking 39 = .ok (.goto (-32), 3) := by decide +kernel
theorem dX12_firstLacking_42 : decode cX12_firstLacking 42 = .ok (.iload_n 2, 1) := by decide +kernel
theorem dX12_firstLacking_43 : decode cX12_firstLacking 43 = .ok (.ireturn, 1) := by decide +kernel
theorem dX12_takenAll_0 : decode cX12_takenAll 0 = .ok (.iconst 0, 1) := by decide +kernel
theorem dX12_takenAll_1 : decode cX12_takenAll 1 = .ok (.istore_n 2, 1) := by decide +kernel
theorem dX12_takenAll_2 : decode cX12_takenAll 2 = .ok (.iconst 0, 1) := by decide +kernel
theorem dX12_takenAll_3 : decode cX12_takenAll 3 = .ok (.istore_n 3, 1) := by decide +kernel
theorem dX12_takenAll_4 : decode cX12_takenAll 4 = .ok (.iload_n 3, 1) := by decide +kernel
theorem dX12_takenAll_5 : decode cX12_takenAll 5 = .ok (.aload_n 0, 1) := by decide +kernel
theorem dX12_takenAll_6 : decode cX12_takenAll 6 = .ok (.getfield 54, 3) := by decide +kernel
theorem dX12_takenAll_9 : decode cX12_takenAll 9 = .ok (.aload_n 0, 1) := by decide +kernel
theorem dX12_takenAll_10 : decode cX12_takenAll 10 = .ok (.getfield 51, 3) := by decide +kernel
theorem dX12_takenAll_13 : decode cX12_takenAll 13 = .ok (.iaload, 1) := by decide +kernel
theorem dX12_takenAll_14 : decode cX12_takenAll 14 = .ok (.if_icmp .ge 24, 3) := by decide +kernel
theorem dX12_takenAll_17 : decode cX12_takenAll 17 = .ok (.iload_n 2, 1) := by decide +kernel
theorem dX12_takenAll_18 : decode cX12_takenAll 18 = .ok (.aload_n 0, 1) := by decide +kernel
theorem dX12_takenAll_19 : decode cX12_takenAll 19 = .ok (.getfield 158, 3) := by decide +kernel
theorem dX12_takenAll_22 : decode cX12_takenAll 22 = .ok (.sipush 200, 3) := by decide +kernel
theorem dX12_takenAll_25 : decode cX12_takenAll 25 = .ok (.iload_n 1, 1) := by decide +kernel
theorem dX12_takenAll_26 : decode cX12_takenAll 26 = .ok (.imul, 1) := by decide +kernel
theorem dX12_takenAll_27 : decode cX12_takenAll 27 = .ok (.iload_n 3, 1) := by decide +kernel
theorem dX12_takenAll_28 : decode cX12_takenAll 28 = .ok (.iadd, 1) := by decide +kernel
theorem dX12_takenAll_29 : decode cX12_takenAll 29 = .ok (.iaload, 1) := by decide +kernel
theorem dX12_takenAll_30 : decode cX12_takenAll 30 = .ok (.iadd, 1) := by decide +kernel
theorem dX12_takenAll_31 : decode cX12_takenAll 31 = .ok (.istore_n 2, 1) := by decide +kernel
theorem dX12_takenAll_32 : decode cX12_takenAll 32 = .ok (.iinc 3 1, 3) := by decide +kernel
theorem dX12_takenAll_35 : decode cX12_takenAll 35 = .ok (.goto (-31), 3) := by decide +kernel
theorem dX12_takenAll_38 : decode cX12_takenAll 38 = .ok (.iload_n 2, 1) := by decide +kernel
theorem dX12_takenAll_39 : decode cX12_takenAll 39 = .ok (.ireturn, 1) := by decide +kernel
theorem dX12_readsOn_0 : decode cX12_readsOn 0 = .ok (.aload_n 0, 1) := by decide +kernel
theorem dX12_readsOn_1 : decode cX12_readsOn 1 = .ok (.iload_n 1, 1) := by decide +kernel
theorem dX12_readsOn_2 : decode cX12_readsOn 2 = .ok (.invokevirtual 492, 3) := by decide +kernel
theorem dX12_readsOn_5 : decode cX12_readsOn 5 = .ok (.aload_n 0, 1) := by decide +kernel
theorem dX12_readsOn_6 : decode cX12_readsOn 6 = .ok (.iload_n 1, 1) := by decide +kernel
theorem dX12_readsOn_7 : decode cX12_readsOn 7 = .ok (.iconst 4, 1) := by decide +kernel
theorem dX12_readsOn_8 : decode cX12_readsOn 8 = .ok (.invokevirtual 402, 3) := by decide +kernel
theorem dX12_readsOn_11 : decode cX12_readsOn 11 = .ok (.isub, 1) := by decide +kernel
theorem dX12_readsOn_12 : decode cX12_readsOn 12 = .ok (.istore_n 2, 1) := by decide +kernel
theorem dX12_readsOn_13 : decode cX12_readsOn 13 = .ok (.iload_n 2, 1) := by decide +kernel
theorem dX12_readsOn_14 : decode cX12_readsOn 14 = .ok (.istore_n 3, 1) := by decide +kernel
theorem dX12_readsOn_15 : decode cX12_readsOn 15 = .ok (.aload_n 0, 1) := by decide +kernel
theorem dX12_readsOn_16 : decode cX12_readsOn 16 = .ok (.iconst 2, 1) := by decide +kernel
theorem dX12_readsOn_17 : decode cX12_readsOn 17 = .ok (.invokevirtual 452, 3) := by decide +kernel
theorem dX12_readsOn_20 : decode cX12_readsOn 20 = .ok (.ifCond .eq 78, 3) := by decide +kernel
theorem dX12_readsOn_23 : decode cX12_readsOn 23 = .ok (.aload_n 0, 1) := by decide +kernel
theorem dX12_readsOn_24 : decode cX12_readsOn 24 = .ok (.getfield 182, 3) := by decide +kernel
theorem dX12_readsOn_27 : decode cX12_readsOn 27 = .ok (.iconst 1, 1) := by decide +kernel
theorem dX12_readsOn_28 : decode cX12_readsOn 28 = .ok (.aload_n 0, 1) := by decide +kernel
theorem dX12_readsOn_29 : decode cX12_readsOn 29 = .ok (.iload_n 1, 1) := by decide +kernel
theorem dX12_readsOn_30 : decode cX12_readsOn 30 = .ok (.iconst 0, 1) := by decide +kernel
theorem dX12_readsOn_31 : decode cX12_readsOn 31 = .ok (.invokevirtual 402, 3) := by decide +kernel
theorem dX12_readsOn_34 : decode cX12_readsOn 34 = .ok (.iastore, 1) := by decide +kernel
theorem dX12_readsOn_35 : decode cX12_readsOn 35 = .ok (.aload_n 0, 1) := by decide +kernel
theorem dX12_readsOn_36 : decode cX12_readsOn 36 = .ok (.getfield 182, 3) := by decide +kernel
theorem dX12_readsOn_39 : decode cX12_readsOn 39 = .ok (.bipush 9, 2) := by decide +kernel
theorem dX12_readsOn_41 : decode cX12_readsOn 41 = .ok (.iload_n 2, 1) := by decide +kernel
theorem dX12_readsOn_42 : decode cX12_readsOn 42 = .ok (.iastore, 1) := by decide +kernel
theorem dX12_readsOn_43 : decode cX12_readsOn 43 = .ok (.aload_n 0, 1) := by decide +kernel
theorem dX12_readsOn_44 : decode cX12_readsOn 44 = .ok (.getfield 182, 3) := by decide +kernel
theorem dX12_readsOn_47 : decode cX12_readsOn 47 = .ok (.bipush 10, 2) := by decide +kernel
theorem dX12_readsOn_49 : decode cX12_readsOn 49 = .ok (.aload_n 0, 1) := by decide +kernel
theorem dX12_readsOn_50 : decode cX12_readsOn 50 = .ok (.iload_n 1, 1) := by decide +kernel
theorem dX12_readsOn_51 : decode cX12_readsOn 51 = .ok (.invokevirtual 495, 3) := by decide +kernel
theorem dX12_readsOn_54 : decode cX12_readsOn 54 = .ok (.aload_n 0, 1) := by decide +kernel
theorem dX12_readsOn_55 : decode cX12_readsOn 55 = .ok (.iload_n 1, 1) := by decide +kernel
theorem dX12_readsOn_56 : decode cX12_readsOn 56 = .ok (.iconst 4, 1) := by decide +kernel
theorem dX12_readsOn_57 : decode cX12_readsOn 57 = .ok (.invokevirtual 402, 3) := by decide +kernel
theorem dX12_readsOn_60 : decode cX12_readsOn 60 = .ok (.isub, 1) := by decide +kernel
theorem dX12_readsOn_61 : decode cX12_readsOn 61 = .ok (.iload_n 2, 1) := by decide +kernel
theorem dX12_readsOn_62 : decode cX12_readsOn 62 = .ok (.isub, 1) := by decide +kernel
theorem dX12_readsOn_63 : decode cX12_readsOn 63 = .ok (.iastore, 1) := by decide +kernel
theorem dX12_readsOn_64 : decode cX12_readsOn 64 = .ok (.aload_n 0, 1) := by decide +kernel
theorem dX12_readsOn_65 : decode cX12_readsOn 65 = .ok (.iconst 2, 1) := by decide +kernel
theorem dX12_readsOn_66 : decode cX12_readsOn 66 = .ok (.invokevirtual 458, 3) := by decide +kernel
theorem dX12_readsOn_69 : decode cX12_readsOn 69 = .ok (.lstore 4, 2) := by decide +kernel
theorem dX12_readsOn_71 : decode cX12_readsOn 71 = .ok (.lload 4, 2) := by decide +kernel
theorem dX12_readsOn_73 : decode cX12_readsOn 73 = .ok (.lconst 0, 1) := by decide +kernel
theorem dX12_readsOn_74 : decode cX12_readsOn 74 = .ok (.lcmp, 1) := by decide +kernel
theorem dX12_readsOn_75 : decode cX12_readsOn 75 = .ok (.ifCond .ge 7, 3) := by decide +kernel
theorem dX12_readsOn_78 : decode cX12_readsOn 78 = .ok (.iconst 0, 1) := by decide +kernel
theorem dX12_readsOn_79 : decode cX12_readsOn 79 = .ok (.goto 18, 3) := by decide +kernel
theorem dX12_readsOn_82 : decode cX12_readsOn 82 = .ok (.lload 4, 2) := by decide +kernel
theorem dX12_readsOn_84 : decode cX12_readsOn 84 = .ok (.iload_n 2, 1) := by decide +kernel
theorem dX12_readsOn_85 : decode cX12_readsOn 85 = .ok (.i2l, 1) := by decide +kernel
theorem dX12_readsOn_86 : decode cX12_readsOn 86 = .ok (.lcmp, 1) := by decide +kernel
theorem dX12_readsOn_87 : decode cX12_readsOn 87 = .ok (.ifCond .le 7, 3) := by decide +kernel
theorem dX12_readsOn_90 : decode cX12_readsOn 90 = .ok (.iload_n 2, 1) := by decide +kernel
theorem dX12_readsOn_91 : decode cX12_readsOn 91 = .ok (.goto 6, 3) := by decide +kernel
theorem dX12_readsOn_94 : decode cX12_readsOn 94 = .ok (.lload 4, 2) := by decide +kernel
theorem dX12_readsOn_96 : decode cX12_readsOn 96 = .ok (.l2i, 1) := by decide +kernel
theorem dX12_readsOn_97 : decode cX12_readsOn 97 = .ok (.istore_n 3, 1) := by decide +kernel
theorem dX12_readsOn_98 : decode cX12_readsOn 98 = .ok (.aload_n 0, 1) := by decide +kernel
theorem dX12_readsOn_99 : decode cX12_readsOn 99 = .ok (.iload_n 1, 1) := by decide +kernel
theorem dX12_readsOn_100 : decode cX12_readsOn 100 = .ok (.iconst 4, 1) := by decide +kernel
theorem dX12_readsOn_101 : decode cX12_readsOn 101 = .ok (.aload_n 0, 1) := by decide +kernel
theorem dX12_readsOn_102 : decode cX12_readsOn 102 = .ok (.iload_n 1, 1) := by decide +kernel
theorem dX12_readsOn_103 : decode cX12_readsOn 103 = .ok (.iconst 4, 1) := by decide +kernel
theorem dX12_readsOn_104 : decode cX12_readsOn 104 = .ok (.invokevirtual 402, 3) := by decide +kernel
theorem dX12_readsOn_107 : decode cX12_readsOn 107 = .ok (.iload_n 3, 1) := by decide +kernel
theorem dX12_readsOn_108 : decode cX12_readsOn 108 = .ok (.iadd, 1) := by decide +kernel
theorem dX12_readsOn_109 : decode cX12_readsOn 109 = .ok (.invokevirtual 405, 3) := by decide +kernel
theorem dX12_readsOn_112 : decode cX12_readsOn 112 = .ok (.iload_n 3, 1) := by decide +kernel
theorem dX12_readsOn_113 : decode cX12_readsOn 113 = .ok (.ireturn, 1) := by decide +kernel
theorem dX12_answers_0 : decode cX12_answers 0 = .ok (.iconst 5, 1) := by decide +kernel
theorem dX12_answers_1 : decode cX12_answers 1 = .ok (.sipush 520, 3) := by decide +kernel
theorem dX12_answers_4 : decode cX12_answers 4 = .ok (.iload_n 1, 1) := by decide +kernel
theorem dX12_answers_5 : decode cX12_answers 5 = .ok (.imul, 1) := by decide +kernel
theorem dX12_answers_6 : decode cX12_answers 6 = .ok (.aload_n 0, 1) := by decide +kernel
theorem dX12_answers_7 : decode cX12_answers 7 = .ok (.iload_n 1, 1) := by decide +kernel
theorem dX12_answers_8 : decode cX12_answers 8 = .ok (.bipush 8, 2) := by decide +kernel
theorem dX12_answers_10 : decode cX12_answers 10 = .ok (.invokevirtual 402, 3) := by decide +kernel
theorem dX12_answers_13 : decode cX12_answers 13 = .ok (.iadd, 1) := by decide +kernel
theorem dX12_answers_14 : decode cX12_answers 14 = .ok (.imul, 1) := by decide +kernel
theorem dX12_answers_15 : decode cX12_answers 15 = .ok (.istore 4, 2) := by decide +kernel
theorem dX12_answers_17 : decode cX12_answers 17 = .ok (.aload_n 0, 1) := by decide +kernel
theorem dX12_answers_18 : decode cX12_answers 18 = .ok (.getfield 155, 3) := by decide +kernel
theorem dX12_answers_21 : decode cX12_answers 21 = .ok (.iload 4, 2) := by decide +kernel
theorem dX12_answers_23 : decode cX12_answers 23 = .ok (.iconst 0, 1) := by decide +kernel
theorem dX12_answers_24 : decode cX12_answers 24 = .ok (.iadd, 1) := by decide +kernel
theorem dX12_answers_25 : decode cX12_answers 25 = .ok (.iload_n 2, 1) := by decide +kernel
theorem dX12_answers_26 : decode cX12_answers 26 = .ok (.iastore, 1) := by decide +kernel
theorem dX12_answers_27 : decode cX12_answers 27 = .ok (.aload_n 0, 1) := by decide +kernel
theorem dX12_answers_28 : decode cX12_answers 28 = .ok (.getfield 155, 3) := by decide +kernel
theorem dX12_answers_31 : decode cX12_answers 31 = .ok (.iload 4, 2) := by decide +kernel
theorem dX12_answers_33 : decode cX12_answers 33 = .ok (.iconst 1, 1) := by decide +kernel
theorem dX12_answers_34 : decode cX12_answers 34 = .ok (.iadd, 1) := by decide +kernel
theorem dX12_answers_35 : decode cX12_answers 35 = .ok (.iload_n 3, 1) := by decide +kernel
theorem dX12_answers_36 : decode cX12_answers 36 = .ok (.iastore, 1) := by decide +kernel
theorem dX12_answers_37 : decode cX12_answers 37 = .ok (.aload_n 0, 1) := by decide +kernel
theorem dX12_answers_38 : decode cX12_answers 38 = .ok (.getfield 155, 3) := by decide +kernel
theorem dX12_answers_41 : decode cX12_answers 41 = .ok (.iload 4, 2) := by decide +kernel
theorem dX12_answers_43 : decode cX12_answers 43 = .ok (.iconst 2, 1) := by decide +kernel
theorem dX12_answers_44 : decode cX12_answers 44 = .ok (.iadd, 1) := by decide +kernel
theorem dX12_answers_45 : decode cX12_answers 45 = .ok (.aload_n 0, 1) := by decide +kernel
theorem dX12_answers_46 : decode cX12_answers 46 = .ok (.iload_n 1, 1) := by decide +kernel
theorem dX12_answers_47 : decode cX12_answers 47 = .ok (.invokevirtual 492, 3) := by decide +kernel
theorem dX12_answers_50 : decode cX12_answers 50 = .ok (.iastore, 1) := by decide +kernel
theorem dX12_answers_51 : decode cX12_answers 51 = .ok (.aload_n 0, 1) := by decide +kernel
theorem dX12_answers_52 : decode cX12_answers 52 = .ok (.getfield 155, 3) := by decide +kernel
theorem dX12_answers_55 : decode cX12_answers 55 = .ok (.iload 4, 2) := by decide +kernel
theorem dX12_answers_57 : decode cX12_answers 57 = .ok (.iconst 3, 1) := by decide +kernel
theorem dX12_answers_58 : decode cX12_answers 58 = .ok (.iadd, 1) := by decide +kernel
theorem dX12_answers_59 : decode cX12_answers 59 = .ok (.aload_n 0, 1) := by decide +kernel
theorem dX12_answers_60 : decode cX12_answers 60 = .ok (.iload_n 1, 1) := by decide +kernel
theorem dX12_answers_61 : decode cX12_answers 61 = .ok (.iconst 4, 1) := by decide +kernel
theorem dX12_answers_62 : decode cX12_answers 62 = .ok (.invokevirtual 402, 3) := by decide +kernel
theorem dX12_answers_65 : decode cX12_answers 65 = .ok (.aload_n 0, 1) := by decide +kernel
theorem dX12_answers_66 : decode cX12_answers 66 = .ok (.getfield 173, 3) := by decide +kernel
theorem dX12_answers_69 : decode cX12_answers 69 = .ok (.iadd, 1) := by decide +kernel
theorem dX12_answers_70 : decode cX12_answers 70 = .ok (.iastore, 1) := by decide +kernel
theorem dX12_answers_71 : decode cX12_answers 71 = .ok (.aload_n 0, 1) := by decide +kernel
theorem dX12_answers_72 : decode cX12_answers 72 = .ok (.getfield 155, 3) := by decide +kernel
theorem dX12_answers_75 : decode cX12_answers 75 = .ok (.iload 4, 2) := by decide +kernel
theorem dX12_answers_77 : decode cX12_answers 77 = .ok (.iconst 4, 1) := by decide +kernel
theorem dX12_answers_78 : decode cX12_answers 78 = .ok (.iadd, 1) := by decide +kernel
theorem dX12_answers_79 : decode cX12_answers 79 = .ok (.aload_n 0, 1) := by decide +kernel
theorem dX12_answers_80 : decode cX12_answers 80 = .ok (.iload_n 1, 1) := by decide +kernel
theorem dX12_answers_81 : decode cX12_answers 81 = .ok (.iconst 0, 1) := by decide +kernel
theorem dX12_answers_82 : decode cX12_answers 82 = .ok (.invokevirtual 402, 3) := by decide +kernel
theorem dX12_answers_85 : decode cX12_answers 85 = .ok (.aload_n 0, 1) := by decide +kernel
theorem dX12_answers_86 : decode cX12_answers 86 = .ok (.getfield 176, 3) := by decide +kernel
theorem dX12_answers_89 : decode cX12_answers 89 = .ok (.iload_n 2, 1) := by decide +kernel
theorem dX12_answers_90 : decode cX12_answers 90 = .ok (.iaload, 1) := by decide +kernel
theorem dX12_answers_91 : decode cX12_answers 91 = .ok (.iadd, 1) := by decide +kernel
theorem dX12_answers_92 : decode cX12_answers 92 = .ok (.iastore, 1) := by decide +kernel
theorem dX12_answers_93 : decode cX12_answers 93 = .ok (.aload_n 0, 1) := by decide +kernel
theorem dX12_answers_94 : decode cX12_answers 94 = .ok (.iload_n 1, 1) := by decide +kernel
theorem dX12_answers_95 : decode cX12_answers 95 = .ok (.bipush 8, 2) := by decide +kernel
theorem dX12_answers_97 : decode cX12_answers 97 = .ok (.aload_n 0, 1) := by decide +kernel
theorem dX12_answers_98 : decode cX12_answers 98 = .ok (.iload_n 1, 1) := by decide +kernel
theorem dX12_answers_99 : decode cX12_answers 99 = .ok (.bipush 8, 2) := by decide +kernel
theorem dX12_answers_101 : decode cX12_answers 101 = .ok (.invokevirtual 402, 3) := by decide +kernel
theorem dX12_answers_104 : decode cX12_answers 104 = .ok (.iconst 1, 1) := by decide +kernel
theorem dX12_answers_105 : decode cX12_answers 105 = .ok (.iadd, 1) := by decide +kernel
theorem dX12_answers_106 : decode cX12_answers 106 = .ok (.invokevirtual 405, 3) := by decide +kernel
theorem dX12_answers_109 : decode cX12_answers 109 = .ok (.return_, 1) := by decide +kernel
theorem dX12_firstOpen_0 : decode cX12_firstOpen 0 = .ok (.iconst 0, 1) := by decide +kernel
theorem dX12_firstOpen_1 : decode cX12_firstOpen 1 = .ok (.istore_n 2, 1) := by decide +kernel
theorem dX12_firstOpen_2 : decode cX12_firstOpen 2 = .ok (.iload_n 2, 1) := by decide +kernel
theorem dX12_firstOpen_3 : decode cX12_firstOpen 3 = .ok (.aload_n 0, 1) := by decide +kernel
theorem dX12_firstOpen_4 : decode cX12_firstOpen 4 = .ok (.getfield 66, 3) := by decide +kernel
theorem dX12_firstOpen_7 : decode cX12_firstOpen 7 = .ok (.aload_n 0, 1) := by decide +kernel
theorem dX12_firstOpen_8 : decode cX12_firstOpen 8 = .ok (.getfield 51, 3) := by decide +kernel
theorem dX12_firstOpen_11 : decode cX12_firstOpen 11 = .ok (.iaload, 1) := by decide +kernel
theorem dX12_firstOpen_12 : decode cX12_firstOpen 12 = .ok (.if_icmp .ge 20, 3) := by decide +kernel
theorem dX12_firstOpen_15 : decode cX12_firstOpen 15 = .ok (.aload_n 0, 1) := by decide +kernel
theorem dX12_firstOpen_16 : decode cX12_firstOpen 16 = .ok (.iload_n 1, 1) := by decide +kernel
theorem dX12_firstOpen_17 : decode cX12_firstOpen 17 = .ok (.iload_n 2, 1) := by decide +kernel
theorem dX12_firstOpen_18 : decode cX12_firstOpen 18 = .ok (.invokevirtual 470, 3) := by decide +kernel
theorem dX12_firstOpen_21 : decode cX12_firstOpen 21 = .ok (.ifCond .eq 5, 3) := by decide +kernel
theorem dX12_firstOpen_24 : decode cX12_firstOpen 24 = .ok (.iload_n 2, 1) := by decide +kernel
theorem dX12_firstOpen_25 : decode cX12_firstOpen 25 = .ok (.ireturn, 1) := by decide +kernel
theorem dX12_firstOpen_26 : decode cX12_firstOpen 26 = .ok (.iinc 2 1, 3) := by decide +kernel
theorem dX12_firstOpen_29 : decode cX12_firstOpen 29 = .ok (.goto (-27), 3) := by decide +kernel
theorem dX12_firstOpen_32 : decode cX12_firstOpen 32 = .ok (.iconst (-1), 1) := by decide +kernel
theorem dX12_firstOpen_33 : decode cX12_firstOpen 33 = .ok (.ireturn, 1) := by decide +kernel
theorem dX12_setsOut_0 : decode cX12_setsOut 0 = .ok (.iconst 0, 1) := by decide +kernel
theorem dX12_setsOut_1 : decode cX12_setsOut 1 = .ok (.istore_n 3, 1) := by decide +kernel
theorem dX12_setsOut_2 : decode cX12_setsOut 2 = .ok (.iload_n 3, 1) := by decide +kernel
theorem dX12_setsOut_3 : decode cX12_setsOut 3 = .ok (.aload_n 0, 1) := by decide +kernel
theorem dX12_setsOut_4 : decode cX12_setsOut 4 = .ok (.getfield 188, 3) := by decide +kernel
theorem dX12_setsOut_7 : decode cX12_setsOut 7 = .ok (.if_icmp .ge 38, 3) := by decide +kernel
theorem dX12_setsOut_10 : decode cX12_setsOut 10 = .ok (.aload_n 0, 1) := by decide +kernel
theorem dX12_setsOut_11 : decode cX12_setsOut 11 = .ok (.iload_n 1, 1) := by decide +kernel
theorem dX12_setsOut_12 : decode cX12_setsOut 12 = .ok (.aload_n 0, 1) := by decide +kernel
theorem dX12_setsOut_13 : decode cX12_setsOut 13 = .ok (.iload_n 1, 1) := by decide +kernel
theorem dX12_setsOut_14 : decode cX12_setsOut 14 = .ok (.aload_n 0, 1) := by decide +kernel
theorem dX12_setsOut_15 : decode cX12_setsOut 15 = .ok (.getfield 185, 3) := by decide +kernel
theorem dX12_setsOut_18 : decode cX12_setsOut 18 = .ok (.iload_n 3, 1) := by decide +kernel
theorem dX12_setsOut_19 : decode cX12_setsOut 19 = .ok (.iaload, 1) := by decide +kernel
theorem dX12_setsOut_20 : decode cX12_setsOut 20 = .ok (.iconst 0, 1) := by decide +kernel
theorem dX12_setsOut_21 : decode cX12_setsOut 21 = .ok (.invokevirtual 445, 3) := by decide +kernel
theorem dX12_setsOut_24 : decode cX12_setsOut 24 = .ok (.aload_n 0, 1) := by decide +kernel
theorem dX12_setsOut_25 : decode cX12_setsOut 25 = .ok (.iload_n 1, 1) := by decide +kernel
theorem dX12_setsOut_26 : decode cX12_setsOut 26 = .ok (.aload_n 0, 1) := by decide +kernel
theorem dX12_setsOut_27 : decode cX12_setsOut 27 = .ok (.getfield 185, 3) := by decide +kernel
theorem dX12_setsOut_30 : decode cX12_setsOut 30 = .ok (.iload_n 3, 1) := by decide +kernel
theorem dX12_setsOut_31 : decode cX12_setsOut 31 = .ok (.iaload, 1) := by decide +kernel
theorem dX12_setsOut_32 : decode cX12_setsOut 32 = .ok (.iconst 1, 1) := by decide +kernel
theorem dX12_setsOut_33 : decode cX12_setsOut 33 = .ok (.invokevirtual 445, 3) := by decide +kernel
theorem dX12_setsOut_36 : decode cX12_setsOut 36 = .ok (.invokevirtual 498, 3) := by decide +kernel
theorem dX12_setsOut_39 : decode cX12_setsOut 39 = .ok (.iinc 3 1, 3) := by decide +kernel
theorem dX12_setsOut_42 : decode cX12_setsOut 42 = .ok (.goto (-40), 3) := by decide +kernel
theorem dX12_setsOut_45 : decode cX12_setsOut 45 = .ok (.aload_n 0, 1) := by decide +kernel
theorem dX12_setsOut_46 : decode cX12_setsOut 46 = .ok (.iload_n 1, 1) := by decide +kernel
theorem dX12_setsOut_47 : decode cX12_setsOut 47 = .ok (.invokevirtual 501, 3) := by decide +kernel
theorem dX12_setsOut_50 : decode cX12_setsOut 50 = .ok (.istore_n 3, 1) := by decide +kernel
theorem dX12_setsOut_51 : decode cX12_setsOut 51 = .ok (.aload_n 0, 1) := by decide +kernel
theorem dX12_setsOut_52 : decode cX12_setsOut 52 = .ok (.getfield 188, 3) := by decide +kernel
theorem dX12_setsOut_55 : decode cX12_setsOut 55 = .ok (.ifCond .ne 19, 3) := by decide +kernel
theorem dX12_setsOut_58 : decode cX12_setsOut 58 = .ok (.iload_n 2, 1) := by decide +kernel
theorem dX12_setsOut_59 : decode cX12_setsOut 59 = .ok (.ifCond .le 15, 3) := by decide +kernel
theorem dX12_setsOut_62 : decode cX12_setsOut 62 = .ok (.iload_n 3, 1) := by decide +kernel
theorem dX12_setsOut_63 : decode cX12_setsOut 63 = .ok (.iconst (-1), 1) := by decide +kernel
theorem dX12_setsOut_64 : decode cX12_setsOut 64 = .ok (.if_icmp .eq 10, 3) := by decide +kernel
theorem dX12_setsOut_67 : decode cX12_setsOut 67 = .ok (.aload_n 0, 1) := by decide +kernel
theorem dX12_setsOut_68 : decode cX12_setsOut 68 = .ok (.iload_n 1, 1) := by decide +kernel
theorem dX12_setsOut_69 : decode cX12_setsOut 69 = .ok (.iload_n 3, 1) := by decide +kernel
theorem dX12_setsOut_70 : decode cX12_setsOut 70 = .ok (.iconst (-1), 1) := by decide +kernel
theorem dX12_setsOut_71 : decode cX12_setsOut 71 = .ok (.invokevirtual 498, 3) := by decide +kernel
theorem dX12_setsOut_74 : decode cX12_setsOut 74 = .ok (.return_, 1) := by decide +kernel
theorem dX12_again_0 : decode cX12_again 0 = .ok (.aload_n 0, 1) := by decide +kernel
theorem dX12_again_1 : decode cX12_again 1 = .ok (.iload_n 1, 1) := by decide +kernel
theorem dX12_again_2 : decode cX12_again 2 = .ok (.iload_n 2, 1) := by decide +kernel
theorem dX12_again_3 : decode cX12_again 3 = .ok (.bipush 6, 2) := by decide +kernel
theorem dX12_again_5 : decode cX12_again 5 = .ok (.iconst 0, 1) := by decide +kernel
theorem dX12_again_6 : decode cX12_again 6 = .ok (.invokevirtual 482, 3) := by decide +kernel
theorem dX12_again_9 : decode cX12_again 9 = .ok (.iconst 2, 1) := by decide +kernel
theorem dX12_again_10 : decode cX12_again 10 = .ok (.sipush 480, 3) := by decide +kernel
theorem dX12_again_13 : decode cX12_again 13 = .ok (.iload_n 1, 1) := by decide +kernel
theorem dX12_again_14 : decode cX12_again 14 = .ok (.imul, 1) := by decide +kernel
theorem dX12_again_15 : decode cX12_again 15 = .ok (.aload_n 0, 1) := by decide +kernel
theorem dX12_again_16 : decode cX12_again 16 = .ok (.iload_n 1, 1) := by decide +kernel
theorem dX12_again_17 : decode cX12_again 17 = .ok (.bipush 7, 2) := by decide +kernel
theorem dX12_again_19 : decode cX12_again 19 = .ok (.invokevirtual 402, 3) := by decide +kernel
theorem dX12_again_22 : decode cX12_again 22 = .ok (.iadd, 1) := by decide +kernel
theorem dX12_again_23 : decode cX12_again 23 = .ok (.imul, 1) := by decide +kernel
theorem dX12_again_24 : decode cX12_again 24 = .ok (.istore_n 3, 1) := by decide +kernel
theorem dX12_again_25 : decode cX12_again 25 = .ok (.aload_n 0, 1) := by decide +kernel
theorem dX12_again_26 : decode cX12_again 26 = .ok (.getfield 151, 3) := by decide +kernel
theorem dX12_again_29 : decode cX12_again 29 = .ok (.iload_n 3, 1) := by decide +kernel
theorem dX12_again_30 : decode cX12_again 30 = .ok (.aload_n 0, 1) := by decide +kernel
theorem dX12_again_31 : decode cX12_again 31 = .ok (.iload_n 1, 1) := by decide +kernel
theorem dX12_again_32 : decode cX12_again 32 = .ok (.iload_n 2, 1) := by decide +kernel
theorem dX12_again_33 : decode cX12_again 33 = .ok (.iconst 2, 1) := by decide +kernel
theorem dX12_again_34 : decode cX12_again 34 = .ok (.invokevirtual 445, 3) := by decide +kernel
theorem dX12_again_37 : decode cX12_again 37 = .ok (.iastore, 1) := by decide +kernel
theorem dX12_again_38 : decode cX12_again 38 = .ok (.aload_n 0, 1) := by decide +kernel
theorem dX12_again_39 : decode cX12_again 39 = .ok (.getfield 151, 3) := by decide +kernel
theorem dX12_again_42 : decode cX12_again 42 = .ok (.iload_n 3, 1) := by decide +kernel
theorem dX12_again_43 : decode cX12_again 43 = .ok (.iconst 1, 1) := by decide +kernel
theorem dX12_again_44 : decode cX12_again 44 = .ok (.iadd, 1) := by decide +kernel
theorem dX12_again_45 : decode cX12_again 45 = .ok (.aload_n 0, 1) := by decide +kernel
theorem dX12_again_46 : decode cX12_again 46 = .ok (.iload_n 1, 1) := by decide +kernel
theorem dX12_again_47 : decode cX12_again 47 = .ok (.iload_n 2, 1) := by decide +kernel
theorem dX12_again_48 : decode cX12_again 48 = .ok (.iconst 3, 1) := by decide +kernel
theorem dX12_again_49 : decode cX12_again 49 = .ok (.invokevirtual 445, 3) := by decide +kernel
theorem dX12_again_52 : decode cX12_again 52 = .ok (.iastore, 1) := by decide +kernel
theorem dX12_again_53 : decode cX12_again 53 = .ok (.aload_n 0, 1) := by decide +kernel
theorem dX12_again_54 : decode cX12_again 54 = .ok (.iload_n 1, 1) := by decide +kernel
theorem dX12_again_55 : decode cX12_again 55 = .ok (.bipush 7, 2) := by decide +kernel
theorem dX12_again_57 : decode cX12_again 57 = .ok (.aload_n 0, 1) := by decide +kernel
theorem dX12_again_58 : decode cX12_again 58 = .ok (.iload_n 1, 1) := by decide +kernel
theorem dX12_again_59 : decode cX12_again 59 = .ok (.bipush 7, 2) := by decide +kernel
theorem dX12_again_61 : decode cX12_again 61 = .ok (.invokevirtual 402, 3) := by decide +kernel
theorem dX12_again_64 : decode cX12_again 64 = .ok (.iconst 1, 1) := by decide +kernel
theorem dX12_again_65 : decode cX12_again 65 = .ok (.iadd, 1) := by decide +kernel
theorem dX12_again_66 : decode cX12_again 66 = .ok (.invokevirtual 405, 3) := by decide +kernel
theorem dX12_again_69 : decode cX12_again 69 = .ok (.return_, 1) := by decide +kernel
theorem dX12_dies_0 : decode cX12_dies 0 = .ok (.aload_n 0, 1) := by decide +kernel
theorem dX12_dies_1 : decode cX12_dies 1 = .ok (.iload_n 1, 1) := by decide +kernel
theorem dX12_dies_2 : decode cX12_dies 2 = .ok (.iload_n 2, 1) := by decide +kernel
theorem dX12_dies_3 : decode cX12_dies 3 = .ok (.iconst 1, 1) := by decide +kernel
theorem dX12_dies_4 : decode cX12_dies 4 = .ok (.invokevirtual 438, 3) := by decide +kernel
theorem dX12_dies_7 : decode cX12_dies 7 = .ok (.iconst 1, 1) := by decide +kernel
theorem dX12_dies_8 : decode cX12_dies 8 = .ok (.if_icmp .ne 4, 3) := by decide +kernel
theorem dX12_dies_11 : decode cX12_dies 11 = .ok (.return_, 1) := by decide +kernel
theorem dX12_dies_12 : decode cX12_dies 12 = .ok (.aload_n 0, 1) := by decide +kernel
theorem dX12_dies_13 : decode cX12_dies 13 = .ok (.iload_n 1, 1) := by decide +kernel
theorem dX12_dies_14 : decode cX12_dies 14 = .ok (.iload_n 2, 1) := by decide +kernel
theorem dX12_dies_15 : decode cX12_dies 15 = .ok (.iconst 1, 1) := by decide +kernel
theorem dX12_dies_16 : decode cX12_dies 16 = .ok (.iconst 1, 1) := by decide +kernel
theorem dX12_dies_17 : decode cX12_dies 17 = .ok (.invokevirtual 412, 3) := by decide +kernel
theorem dX12_dies_20 : decode cX12_dies 20 = .ok (.aload_n 0, 1) := by decide +kernel
theorem dX12_dies_21 : decode cX12_dies 21 = .ok (.iload_n 1, 1) := by decide +kernel
theorem dX12_dies_22 : decode cX12_dies 22 = .ok (.iconst 2, 1) := by decide +kernel
theorem dX12_dies_23 : decode cX12_dies 23 = .ok (.iload_n 2, 1) := by decide +kernel
theorem dX12_dies_24 : decode cX12_dies 24 = .ok (.aload_n 0, 1) := by decide +kernel
theorem dX12_dies_25 : decode cX12_dies 25 = .ok (.iload_n 1, 1) := by decide +kernel
theorem dX12_dies_26 : decode cX12_dies 26 = .ok (.iconst 0, 1) := by decide +kernel
theorem dX12_dies_27 : decode cX12_dies 27 = .ok (.invokevirtual 402, 3) := by decide +kernel
theorem dX12_dies_30 : decode cX12_dies 30 = .ok (.invokevirtual 504, 3) := by decide +kernel
theorem dX12_dies_33 : decode cX12_dies 33 = .ok (.iconst 0, 1) := by decide +kernel
theorem dX12_dies_34 : decode cX12_dies 34 = .ok (.istore_n 3, 1) := by decide +kernel
theorem dX12_dies_35 : decode cX12_dies 35 = .ok (.iload_n 3, 1) := by decide +kernel
theorem dX12_dies_36 : decode cX12_dies 36 = .ok (.aload_n 0, 1) := by decide +kernel
theorem dX12_dies_37 : decode cX12_dies 37 = .ok (.iload_n 1, 1) := by decide +kernel
theorem dX12_dies_38 : decode cX12_dies 38 = .ok (.bipush 6, 2) := by decide +kernel
theorem dX12_dies_40 : decode cX12_dies 40 = .ok (.invokevirtual 402, 3) := by decide +kernel
theorem dX12_dies_43 : decode cX12_dies 43 = .ok (.if_icmp .ge 38, 3) := by decide +kernel
theorem dX12_dies_46 : decode cX12_dies 46 = .ok (.aload_n 0, 1) := by decide +kernel
theorem dX12_dies_47 : decode cX12_dies 47 = .ok (.iload_n 1, 1) := by decide +kernel
theorem dX12_dies_48 : decode cX12_dies 48 = .ok (.iload_n 3, 1) := by decide +kernel
theorem dX12_dies_49 : decode cX12_dies 49 = .ok (.iconst 0, 1) := by decide +kernel
theorem dX12_dies_50 : decode cX12_dies 50 = .ok (.invokevirtual 445, 3) := by decide +kernel
theorem dX12_dies_53 : decode cX12_dies 53 = .ok (.iload_n 2, 1) := by decide +kernel
theorem dX12_dies_54 : decode cX12_dies 54 = .ok (.if_icmp .ne 21, 3) := by decide +kernel
theorem dX12_dies_57 : decode cX12_dies 57 = .ok (.aload_n 0, 1) := by decide +kernel
theorem dX12_dies_58 : decode cX12_dies 58 = .ok (.iload_n 1, 1) := by decide +kernel
theorem dX12_dies_59 : decode cX12_dies 59 = .ok (.iload_n 3, 1) := by decide +kernel
theorem dX12_dies_60 : decode cX12_dies 60 = .ok (.bipush 6, 2) := by decide +kernel
theorem dX12_dies_62 : decode cX12_dies 62 = .ok (.invokevirtual 445, 3) := by decide +kernel
theorem dX12_dies_65 : decode cX12_dies 65 = .ok (.iconst 1, 1) := by decide +kernel
theorem dX12_dies_66 : decode cX12_dies 66 = .ok (.if_icmp .ne 9, 3) := by decide +kernel
theorem dX12_dies_69 : decode cX12_dies 69 = .ok (.aload_n 0, 1) := by decide +kernel
theorem dX12_dies_70 : decode cX12_dies 70 = .ok (.iload_n 1, 1) := by decide +kernel
theorem dX12_dies_71 : decode cX12_dies 71 = .ok (.iload_n 3, 1) := by decide +kernel
theorem dX12_dies_72 : decode cX12_dies 72 = .ok (.invokevirtual 507, 3) := by decide +kernel
theorem dX12_dies_75 : decode cX12_dies 75 = .ok (.iinc 3 1, 3) := by decide +kernel
theorem dX12_dies_78 : decode cX12_dies 78 = .ok (.goto (-43), 3) := by decide +kernel
theorem dX12_dies_81 : decode cX12_dies 81 = .ok (.return_, 1) := by decide +kernel
theorem dX12_halved_0 : decode cX12_halved 0 = .ok (.iload_n 0, 1) := by decide +kernel
theorem dX12_halved_1 : decode cX12_halved 1 = .ok (.iconst 2, 1) := by decide +kernel
theorem dX12_halved_2 : decode cX12_halved 2 = .ok (.idiv, 1) := by decide +kernel
theorem dX12_halved_3 : decode cX12_halved 3 = .ok (.sipush 1000, 3) := by decide +kernel
theorem dX12_halved_6 : decode cX12_halved 6 = .ok (.if_icmp .ge 9, 3) := by decide +kernel
theorem dX12_halved_9 : decode cX12_halved 9 = .ok (.sipush 1000, 3) := by decide +kernel
theorem dX12_halved_12 : decode cX12_halved 12 = .ok (.goto 6, 3) := by decide +kernel
theorem dX12_halved_15 : decode cX12_halved 15 = .ok (.iload_n 0, 1) := by decide +kernel
theorem dX12_halved_16 : decode cX12_halved 16 = .ok (.iconst 2, 1) := by decide +kernel
theorem dX12_halved_17 : decode cX12_halved 17 = .ok (.idiv, 1) := by decide +kernel
theorem dX12_halved_18 : decode cX12_halved 18 = .ok (.ireturn, 1) := by decide +kernel
theorem dX12_fails_0 : decode cX12_fails 0 = .ok (.aload_n 0, 1) := by decide +kernel
theorem dX12_fails_1 : decode cX12_fails 1 = .ok (.iload_n 1, 1) := by decide +kernel
theorem dX12_fails_2 : decode cX12_fails 2 = .ok (.iload_n 2, 1) := by decide +kernel
theorem dX12_fails_3 : decode cX12_fails 3 = .ok (.invokevirtual 510, 3) := by decide +kernel
theorem dX12_fails_6 : decode cX12_fails 6 = .ok (.istore_n 3, 1) := by decide +kernel
theorem dX12_fails_7 : decode cX12_fails 7 = .ok (.iconst 0, 1) := by decide +kernel
theorem dX12_fails_8 : decode cX12_fails 8 = .ok (.istore 4, 2) := by decide +kernel
theorem dX12_fails_10 : decode cX12_fails 10 = .ok (.iload 4, 2) := by decide +kernel
theorem dX12_fails_12 : decode cX12_fails 12 = .ok (.aload_n 0, 1) := by decide +kernel
theorem dX12_fails_13 : decode cX12_fails 13 = .ok (.iload_n 1, 1) := by decide +kernel
theorem dX12_fails_14 : decode cX12_fails 14 = .ok (.bipush 6, 2) := by decide +kernel
theorem dX12_fails_16 : decode cX12_fails 16 = .ok (.invokevirtual 402, 3) := by decide +kernel
theorem dX12_fails_19 : decode cX12_fails 19 = .ok (.if_icmp .ge 128, 3) := by decide +kernel
theorem dX12_fails_22 : decode cX12_fails 22 = .ok (.aload_n 0, 1) := by decide +kernel
theorem dX12_fails_23 : decode cX12_fails 23 = .ok (.iload_n 1, 1) := by decide +kernel
theorem dX12_fails_24 : decode cX12_fails 24 = .ok (.iload 4, 2) := by decide +kernel
theorem dX12_fails_26 : decode cX12_fails 26 = .ok (.iconst 0, 1) := by decide +kernel
theorem dX12_fails_27 : decode cX12_fails 27 = .ok (.invokevirtual 445, 3) := by decide +kernel
theorem dX12_fails_30 : decode cX12_fails 30 = .ok (.iload_n 2, 1) := by decide +kernel
theorem dX12_fails_31 : decode cX12_fails 31 = .ok (.if_icmp .ne 110, 3) := by decide +kernel
theorem dX12_fails_34 : decode cX12_fails 34 = .ok (.aload_n 0, 1) := by decide +kernel
theorem dX12_fails_35 : decode cX12_fails 35 = .ok (.iload_n 1, 1) := by decide +kernel
theorem dX12_fails_36 : decode cX12_fails 36 = .ok (.iload 4, 2) := by decide +kernel
theorem dX12_fails_38 : decode cX12_fails 38 = .ok (.bipush 6, 2) := by decide +kernel
theorem dX12_fails_40 : decode cX12_fails 40 = .ok (.invokevirtual 445, 3) := by decide +kernel
theorem dX12_fails_43 : decode cX12_fails 43 = .ok (.ifCond .eq 98, 3) := by decide +kernel
theorem dX12_fails_46 : decode cX12_fails 46 = .ok (.aload_n 0, 1) := by decide +kernel
theorem dX12_fails_47 : decode cX12_fails 47 = .ok (.iload_n 1, 1) := by decide +kernel
theorem dX12_fails_48 : decode cX12_fails 48 = .ok (.iconst 0, 1) := by decide +kernel
theorem dX12_fails_49 : decode cX12_fails 49 = .ok (.invokevirtual 402, 3) := by decide +kernel
theorem dX12_fails_52 : decode cX12_fails 52 = .ok (.aload_n 0, 1) := by decide +kernel
theorem dX12_fails_53 : decode cX12_fails 53 = .ok (.iload_n 1, 1) := by decide +kernel
theorem dX12_fails_54 : decode cX12_fails 54 = .ok (.iload 4, 2) := by decide +kernel
theorem dX12_fails_56 : decode cX12_fails 56 = .ok (.iconst 4, 1) := by decide +kernel
theorem dX12_fails_57 : decode cX12_fails 57 = .ok (.invokevirtual 445, 3) := by decide +kernel
theorem dX12_fails_60 : decode cX12_fails 60 = .ok (.isub, 1) := by decide +kernel
theorem dX12_fails_61 : decode cX12_fails 61 = .ok (.iload_n 3, 1) := by decide +kernel
theorem dX12_fails_62 : decode cX12_fails 62 = .ok (.if_icmp .ge 6, 3) := by decide +kernel
theorem dX12_fails_65 : decode cX12_fails 65 = .ok (.goto 76, 3) := by decide +kernel
theorem dX12_fails_68 : decode cX12_fails 68 = .ok (.aload_n 0, 1) := by decide +kernel
theorem dX12_fails_69 : decode cX12_fails 69 = .ok (.iload_n 1, 1) := by decide +kernel
theorem dX12_fails_70 : decode cX12_fails 70 = .ok (.iconst 0, 1) := by decide +kernel
theorem dX12_fails_71 : decode cX12_fails 71 = .ok (.iload_n 2, 1) := by decide +kernel
theorem dX12_fails_72 : decode cX12_fails 72 = .ok (.aload_n 0, 1) := by decide +kernel
theorem dX12_fails_73 : decode cX12_fails 73 = .ok (.iload_n 1, 1) := by decide +kernel
theorem dX12_fails_74 : decode cX12_fails 74 = .ok (.iload 4, 2) := by decide +kernel
theorem dX12_fails_76 : decode cX12_fails 76 = .ok (.iconst 2, 1) := by decide +kernel
theorem dX12_fails_77 : decode cX12_fails 77 = .ok (.invokevirtual 445, 3) := by decide +kernel
theorem dX12_fails_80 : decode cX12_fails 80 = .ok (.invokevirtual 504, 3) := by decide +kernel
theorem dX12_fails_83 : decode cX12_fails 83 = .ok (.aload_n 0, 1) := by decide +kernel
theorem dX12_fails_84 : decode cX12_fails 84 = .ok (.iload_n 1, 1) := by decide +kernel
theorem dX12_fails_85 : decode cX12_fails 85 = .ok (.iload 4, 2) := by decide +kernel
theorem dX12_fails_87 : decode cX12_fails 87 = .ok (.invokevirtual 507, 3) := by decide +kernel
theorem dX12_fails_90 : decode cX12_fails 90 = .ok (.aload_n 0, 1) := by decide +kernel
theorem dX12_fails_91 : decode cX12_fails 91 = .ok (.iload_n 1, 1) := by decide +kernel
theorem dX12_fails_92 : decode cX12_fails 92 = .ok (.iload_n 2, 1) := by decide +kernel
theorem dX12_fails_93 : decode cX12_fails 93 = .ok (.iconst 3, 1) := by decide +kernel
theorem dX12_fails_94 : decode cX12_fails 94 = .ok (.aload_n 0, 1) := by decide +kernel
theorem dX12_fails_95 : decode cX12_fails 95 = .ok (.iload_n 1, 1) := by decide +kernel
theorem dX12_fails_96 : decode cX12_fails 96 = .ok (.iload_n 2, 1) := by decide +kernel
theorem dX12_fails_97 : decode cX12_fails 97 = .ok (.iconst 3, 1) := by decide +kernel
theorem dX12_fails_98 : decode cX12_fails 98 = .ok (.invokevirtual 438, 3) := by decide +kernel
theorem dX12_fails_101 : decode cX12_fails 101 = .ok (.iconst 1, 1) := by decide +kernel
theorem dX12_fails_102 : decode cX12_fails 102 = .ok (.iadd, 1) := by decide +kernel
theorem dX12_fails_103 : decode cX12_fails 103 = .ok (.invokevirtual 412, 3) := by decide +kernel
theorem dX12_fails_106 : decode cX12_fails 106 = .ok (.aload_n 0, 1) := by decide +kernel
theorem dX12_fails_107 : decode cX12_fails 107 = .ok (.iload_n 1, 1) := by decide +kernel
theorem dX12_fails_108 : decode cX12_fails 108 = .ok (.iload_n 2, 1) := by decide +kernel
theorem dX12_fails_109 : decode cX12_fails 109 = .ok (.iconst 2, 1) := by decide +kernel
theorem dX12_fails_110 : decode cX12_fails 110 = .ok (.aload_n 0, 1) := by decide +kernel
theorem dX12_fails_111 : decode cX12_fails 111 = .ok (.iload_n 1, 1) := by decide +kernel
theorem dX12_fails_112 : decode cX12_fails 112 = .ok (.iload_n 2, 1) := by decide +kernel
theorem dX12_fails_113 : decode cX12_fails 113 = .ok (.iconst 2, 1) := by decide +kernel
theorem dX12_fails_114 : decode cX12_fails 114 = .ok (.invokevirtual 438, 3) := by decide +kernel
theorem dX12_fails_117 : decode cX12_fails 117 = .ok (.invokestatic 513, 3) := by decide +kernel
theorem dX12_fails_120 : decode cX12_fails 120 = .ok (.invokevirtual 412, 3) := by decide +kernel
theorem dX12_fails_123 : decode cX12_fails 123 = .ok (.aload_n 0, 1) := by decide +kernel
theorem dX12_fails_124 : decode cX12_fails 124 = .ok (.iload_n 1, 1) := by decide +kernel
theorem dX12_fails_125 : decode cX12_fails 125 = .ok (.iload_n 2, 1) := by decide +kernel
theorem dX12_fails_126 : decode cX12_fails 126 = .ok (.iconst 3, 1) := by decide +kernel
theorem dX12_fails_127 : decode cX12_fails 127 = .ok (.invokevirtual 438, 3) := by decide +kernel
theorem dX12_fails_130 : decode cX12_fails 130 = .ok (.iconst 3, 1) := by decide +kernel
theorem dX12_fails_131 : decode cX12_fails 131 = .ok (.if_icmp .ne 9, 3) := by decide +kernel
theorem dX12_fails_134 : decode cX12_fails 134 = .ok (.aload_n 0, 1) := by decide +kernel
theorem dX12_fails_135 : decode cX12_fails 135 = .ok (.iload_n 1, 1) := by decide +kernel
theorem dX12_fails_136 : decode cX12_fails 136 = .ok (.iload_n 2, 1) := by decide +kernel
theorem dX12_fails_137 : decode cX12_fails 137 = .ok (.invokevirtual 516, 3) := by decide +kernel
theorem dX12_fails_140 : decode cX12_fails 140 = .ok (.return_, 1) := by decide +kernel
theorem dX12_fails_141 : decode cX12_fails 141 = .ok (.iinc 4 1, 3) := by decide +kernel
theorem dX12_fails_144 : decode cX12_fails 144 = .ok (.goto (-134), 3) := by decide +kernel
theorem dX12_fails_147 : decode cX12_fails 147 = .ok (.return_, 1) := by decide +kernel
theorem dX12_picked_0 : decode cX12_picked 0 = .ok (.iconst (-1), 1) := by decide +kernel
theorem dX12_picked_1 : decode cX12_picked 1 = .ok (.istore_n 3, 1) := by decide +kernel
theorem dX12_picked_2 : decode cX12_picked 2 = .ok (.lconst 0, 1) := by decide +kernel
theorem dX12_picked_3 : decode cX12_picked 3 = .ok (.lstore 4, 2) := by decide +kernel
theorem dX12_picked_5 : decode cX12_picked 5 = .ok (.iconst 0, 1) := by decide +kernel
theorem dX12_picked_6 : decode cX12_picked 6 = .ok (.istore 6, 2) := by decide +kernel
theorem dX12_picked_8 : decode cX12_picked 8 = .ok (.iload 6, 2) := by decide +kernel
theorem dX12_picked_10 : decode cX12_picked 10 = .ok (.aload_n 0, 1) := by decide +kernel
theorem dX12_picked_11 : decode cX12_picked 11 = .ok (.getfield 66, 3) := by decide +kernel
theorem dX12_picked_14 : decode cX12_picked 14 = .ok (.aload_n 0, 1) := by decide +kernel
theorem dX12_picked_15 : decode cX12_picked 15 = .ok (.getfield 51, 3) := by decide +kernel
theorem dX12_picked_18 : decode cX12_picked 18 = .ok (.iaload, 1) := by decide +kernel
theorem dX12_picked_19 : decode cX12_picked 19 = .ok (.if_icmp .ge 105, 3) := by decide +kernel
theorem dX12_picked_22 : decode cX12_picked 22 = .ok (.iload 6, 2) := by decide +kernel
theorem dX12_picked_24 : decode cX12_picked 24 = .ok (.iload_n 2, 1) := by decide +kernel
theorem dX12_picked_25 : decode cX12_picked 25 = .ok (.if_icmp .eq 93, 3) := by decide +kernel
theorem dX12_picked_28 : decode cX12_picked 28 = .ok (.aload_n 0, 1) := by decide +kernel
theorem dX12_picked_29 : decode cX12_picked 29 = .ok (.iload_n 1, 1) := by decide +kernel
theorem dX12_picked_30 : decode cX12_picked 30 = .ok (.iload 6, 2) := by decide +kernel
theorem dX12_picked_32 : decode cX12_picked 32 = .ok (.invokevirtual 470, 3) := by decide +kernel
theorem dX12_picked_35 : decode cX12_picked 35 = .ok (.ifCond .eq 83, 3) := by decide +kernel
theorem dX12_picked_38 : decode cX12_picked 38 = .ok (.sipush 1000, 3) := by decide +kernel
theorem dX12_picked_41 : decode cX12_picked 41 = .ok (.aload_n 0, 1) := by decide +kernel
theorem dX12_picked_42 : decode cX12_picked 42 = .ok (.iload_n 1, 1) := by decide +kernel
theorem dX12_picked_43 : decode cX12_picked 43 = .ok (.iload 6, 2) := by decide +kernel
theorem dX12_picked_45 : decode cX12_picked 45 = .ok (.invokevirtual 442, 3) := by decide +kernel
theorem dX12_picked_48 : decode cX12_picked 48 = .ok (.imul, 1) := by decide +kernel
theorem dX12_picked_49 : decode cX12_picked 49 = .ok (.aload_n 0, 1) := by decide +kernel
theorem dX12_picked_50 : decode cX12_picked 50 = .ok (.iload_n 1, 1) := by decide +kernel
theorem dX12_picked_51 : decode cX12_picked 51 = .ok (.iload 6, 2) := by decide +kernel
theorem dX12_picked_53 : decode cX12_picked 53 = .ok (.iconst 2, 1) := by decide +kernel
theorem dX12_picked_54 : decode cX12_picked 54 = .ok (.invokevirtual 438, 3) := by decide +kernel
theorem dX12_picked_57 : decode cX12_picked 57 = .ok (.if_icmp .lt 6, 3) := by decide +kernel
theorem dX12_picked_60 : decode cX12_picked 60 = .ok (.goto 58, 3) := by decide +kernel
theorem dX12_picked_63 : decode cX12_picked 63 = .ok (.aload_n 0, 1) := by decide +kernel
theorem dX12_picked_64 : decode cX12_picked 64 = .ok (.getfield 176, 3) := by decide +kernel
theorem dX12_picked_67 : decode cX12_picked 67 = .ok (.iload 6, 2) := by decide +kernel
theorem dX12_picked_69 : decode cX12_picked 69 = .ok (.iaload, 1) := by decide +kernel
theorem dX12_picked_70 : decode cX12_picked 70 = .ok (.i2l, 1) := by decide +kernel
theorem dX12_picked_71 : decode cX12_picked 71 = .ok (.lstore 7, 2) := by decide +kernel
theorem dX12_picked_73 : decode cX12_picked 73 = .ok (.aload_n 0, 1) := by decide +kernel
theorem dX12_picked_74 : decode cX12_picked 74 = .ok (.iconst 1, 1) := by decide +kernel
theorem dX12_picked_75 : decode cX12_picked 75 = .ok (.invokevirtual 452, 3) := by decide +kernel
theorem dX12_picked_78 : decode cX12_picked 78 = .ok (.ifCond .eq 17, 3) := by decide +kernel
theorem dX12_picked_81 : decode cX12_picked 81 = .ok (.aload_n 0, 1) := by decide +kernel
theorem dX12_picked_82 : decode cX12_picked 82 = .ok (.iload_n 1, 1) := by decide +kernel
theorem dX12_picked_83 : decode cX12_picked 83 = .ok (.iload 6, 2) := by decide +kernel
theorem dX12_picked_85 : decode cX12_picked 85 = .ok (.invokevirtual 455, 3) := by decide +kernel
theorem dX12_picked_88 : decode cX12_picked 88 = .ok (.aload_n 0, 1) := by decide +kernel
theorem dX12_picked_89 : decode cX12_picked 89 = .ok (.iconst 1, 1) := by decide +kernel
theorem dX12_picked_90 : decode cX12_picked 90 = .ok (.invokevirtual 458, 3) := by decide +kernel
theorem dX12_picked_93 : decode cX12_picked 93 = .ok (.lstore 7, 2) := by decide +kernel
theorem dX12_picked_95 : decode cX12_picked 95 = .ok (.iload_n 3, 1) := by decide +kernel
theorem dX12_picked_96 : decode cX12_picked 96 = .ok (.iconst (-1), 1) := by decide +kernel
theorem dX12_picked_97 : decode cX12_picked 97 = .ok (.if_icmp .eq 14, 3) := by decide +kernel
theorem dX12_picked_100 : decode cX12_picked 100 = .ok (.lload 7, 2) := by decide +kernel
theorem dX12_picked_102 : decode cX12_picked 102 = .ok (.lload 4, 2) := by decide +kernel
theorem dX12_picked_104 : decode cX12_picked 104 = .ok (.lcmp, 1) := by decide +kernel
theorem dX12_picked_105 : decode cX12_picked 105 = .ok (.ifCond .lt 6, 3) := by decide +kernel
theorem dX12_picked_108 : decode cX12_picked 108 = .ok (.goto 10, 3) := by decide +kernel
theorem dX12_picked_111 : decode cX12_picked 111 = .ok (.iload 6, 2) := by decide +kernel
theorem dX12_picked_113 : decode cX12_picked 113 = .ok (.istore_n 3, 1) := by decide +kernel
theorem dX12_picked_114 : decode cX12_picked 114 = .ok (.lload 7, 2) := by decide +kernel
theorem dX12_picked_116 : decode cX12_picked 116 = .ok (.lstore 4, 2) := by decide +kernel
theorem dX12_picked_118 : decode cX12_picked 118 = .ok (.iinc 6 1, 3) := by decide +kernel
theorem dX12_picked_121 : decode cX12_picked 121 = .ok (.goto (-113), 3) := by decide +kernel
theorem dX12_picked_124 : decode cX12_picked 124 = .ok (.iload_n 3, 1) := by decide +kernel
theorem dX12_picked_125 : decode cX12_picked 125 = .ok (.ireturn, 1) := by decide +kernel
theorem dX12_sends_0 : decode cX12_sends 0 = .ok (.aload_n 0, 1) := by decide +kernel
theorem dX12_sends_1 : decode cX12_sends 1 = .ok (.iload_n 1, 1) := by decide +kernel
theorem dX12_sends_2 : decode cX12_sends 2 = .ok (.bipush 6, 2) := by decide +kernel
theorem dX12_sends_4 : decode cX12_sends 4 = .ok (.invokevirtual 402, 3) := by decide +kernel
theorem dX12_sends_7 : decode cX12_sends 7 = .ok (.istore 5, 2) := by decide +kernel
theorem dX12_sends_9 : decode cX12_sends 9 = .ok (.aload_n 0, 1) := by decide +kernel
theorem dX12_sends_10 : decode cX12_sends 10 = .ok (.iload_n 1, 1) := by decide +kernel
theorem dX12_sends_11 : decode cX12_sends 11 = .ok (.iload_n 2, 1) := by decide +kernel
theorem dX12_sends_12 : decode cX12_sends 12 = .ok (.iconst 4, 1) := by decide +kernel
theorem dX12_sends_13 : decode cX12_sends 13 = .ok (.invokevirtual 438, 3) := by decide +kernel
theorem dX12_sends_16 : decode cX12_sends 16 = .ok (.istore 6, 2) := by decide +kernel
theorem dX12_sends_18 : decode cX12_sends 18 = .ok (.iconst 0, 1) := by decide +kernel
theorem dX12_sends_19 : decode cX12_sends 19 = .ok (.istore 7, 2) := by decide +kernel
theorem dX12_sends_21 : decode cX12_sends 21 = .ok (.aload_n 0, 1) := by decide +kernel
theorem dX12_sends_22 : decode cX12_sends 22 = .ok (.iconst 0, 1) := by decide +kernel
theorem dX12_sends_23 : decode cX12_sends 23 = .ok (.invokevirtual 452, 3) := by decide +kernel
theorem dX12_sends_26 : decode cX12_sends 26 = .ok (.ifCond .eq 41, 3) := by decide +kernel
theorem dX12_sends_29 : decode cX12_sends 29 = .ok (.aload_n 0, 1) := by decide +kernel
theorem dX12_sends_30 : decode cX12_sends 30 = .ok (.iload_n 1, 1) := by decide +kernel
theorem dX12_sends_31 : decode cX12_sends 31 = .ok (.iload_n 2, 1) := by decide +kernel
theorem dX12_sends_32 : decode cX12_sends 32 = .ok (.invokevirtual 455, 3) := by decide +kernel
theorem dX12_sends_35 : decode cX12_sends 35 = .ok (.aload_n 0, 1) := by decide +kernel
theorem dX12_sends_36 : decode cX12_sends 36 = .ok (.getfield 182, 3) := by decide +kernel
theorem dX12_sends_39 : decode cX12_sends 39 = .ok (.iconst 3, 1) := by decide +kernel
theorem dX12_sends_40 : decode cX12_sends 40 = .ok (.iload 6, 2) := by decide +kernel
theorem dX12_sends_42 : decode cX12_sends 42 = .ok (.iastore, 1) := by decide +kernel
theorem dX12_sends_43 : decode cX12_sends 43 = .ok (.aload_n 0, 1) := by decide +kernel
theorem dX12_sends_44 : decode cX12_sends 44 = .ok (.getfield 182, 3) := by decide +kernel
theorem dX12_sends_47 : decode cX12_sends 47 = .ok (.iconst 4, 1) := by decide +kernel
theorem dX12_sends_48 : decode cX12_sends 48 = .ok (.iload_n 3, 1) := by decide +kernel
theorem dX12_sends_49 : decode cX12_sends 49 = .ok (.iastore, 1) := by decide +kernel
theorem dX12_sends_50 : decode cX12_sends 50 = .ok (.aload_n 0, 1) := by decide +kernel
theorem dX12_sends_51 : decode cX12_sends 51 = .ok (.iconst 0, 1) := by decide +kernel
theorem dX12_sends_52 : decode cX12_sends 52 = .ok (.invokevirtual 458, 3) := by decide +kernel
theorem dX12_sends_55 : decode cX12_sends 55 = .ok (.lconst 1, 1) := by decide +kernel
theorem dX12_sends_56 : decode cX12_sends 56 = .ok (.lcmp, 1) := by decide +kernel
theorem dX12_sends_57 : decode cX12_sends 57 = .ok (.ifCond .ne 7, 3) := by decide +kernel
theorem dX12_sends_60 : decode cX12_sends 60 = .ok (.iconst 1, 1) := by decide +kernel
theorem dX12_sends_61 : decode cX12_sends 61 = .ok (.goto 4, 3) := by decide +kernel
theorem dX12_sends_64 : decode cX12_sends 64 = .ok (.iconst 0, 1) := by decide +kernel
theorem dX12_sends_65 : decode cX12_sends 65 = .ok (.istore 7, 2) := by decide +kernel
theorem dX12_sends_67 : decode cX12_sends 67 = .ok (.aload_n 0, 1) := by decide +kernel
theorem dX12_sends_68 : decode cX12_sends 68 = .ok (.getfield 200, 3) := by decide +kernel
theorem dX12_sends_71 : decode cX12_sends 71 = .ok (.ifCond .ne 9, 3) := by decide +kernel
theorem dX12_sends_74 : decode cX12_sends 74 = .ok (.aload_n 0, 1) := by decide +kernel
theorem dX12_sends_75 : decode cX12_sends 75 = .ok (.iload 7, 2) := by decide +kernel
theorem dX12_sends_77 : decode cX12_sends 77 = .ok (.putfield 206, 3) := by decide +kernel
theorem dX12_sends_80 : decode cX12_sends 80 = .ok (.aload_n 0, 1) := by decide +kernel
theorem dX12_sends_81 : decode cX12_sends 81 = .ok (.dup, 1) := by decide +kernel
theorem dX12_sends_82 : decode cX12_sends 82 = .ok (.getfield 200, 3) := by decide +kernel
theorem dX12_sends_85 : decode cX12_sends 85 = .ok (.iconst 1, 1) := by decide +kernel
theorem dX12_sends_86 : decode cX12_sends 86 = .ok (.iadd, 1) := by decide +kernel
theorem dX12_sends_87 : decode cX12_sends 87 = .ok (.putfield 200, 3) := by decide +kernel
theorem dX12_sends_90 : decode cX12_sends 90 = .ok (.aload_n 0, 1) := by decide +kernel
theorem dX12_sends_91 : decode cX12_sends 91 = .ok (.getfield 197, 3) := by decide +kernel
theorem dX12_sends_94 : decode cX12_sends 94 = .ok (.ifCond .eq 34, 3) := by decide +kernel
theorem dX12_sends_97 : decode cX12_sends 97 = .ok (.aload_n 0, 1) := by decide +kernel
theorem dX12_sends_98 : decode cX12_sends 98 = .ok (.bipush 100, 2) := by decide +kernel
theorem dX12_sends_100 : decode cX12_sends 100 = .ok (.invokevirtual 519, 3) := by decide +kernel
theorem dX12_sends_103 : decode cX12_sends 103 = .ok (.aload_n 0, 1) := by decide +kernel
theorem dX12_sends_104 : decode cX12_sends 104 = .ok (.getfield 78, 3) := by decide +kernel
theorem dX12_sends_107 : decode cX12_sends 107 = .ok (.aload_n 0, 1) := by decide +kernel
theorem dX12_sends_108 : decode cX12_sends 108 = .ok (.getfield 51, 3) := by decide +kernel
theorem dX12_sends_111 : decode cX12_sends 111 = .ok (.iaload, 1) := by decide +kernel
theorem dX12_sends_112 : decode cX12_sends 112 = .ok (.if_icmp .ge 16, 3) := by decide +kernel
theorem dX12_sends_115 : decode cX12_sends 115 = .ok (.aload_n 0, 1) := by decide +kernel
theorem dX12_sends_116 : decode cX12_sends 116 = .ok (.dup, 1) := by decide +kernel
theorem dX12_sends_117 : decode cX12_sends 117 = .ok (.getfield 203, 3) := by decide +kernel
theorem dX12_sends_120 : decode cX12_sends 120 = .ok (.iconst 1, 1) := by decide +kernel
theorem dX12_sends_121 : decode cX12_sends 121 = .ok (.iadd, 1) := by decide +kernel
theorem dX12_sends_122 : decode cX12_sends 122 = .ok (.putfield 203, 3) := by decide +kernel
theorem dX12_sends_125 : decode cX12_sends 125 = .ok (.iconst 1, 1) := by decide +kernel
theorem dX12_sends_126 : decode cX12_sends 126 = .ok (.istore 7, 2) := by decide +kernel
theorem dX12_sends_128 : decode cX12_sends 128 = .ok (.aload_n 0, 1) := by decide +kernel
theorem dX12_sends_129 : decode cX12_sends 129 = .ok (.iload_n 1, 1) := by decide +kernel
theorem dX12_sends_130 : decode cX12_sends 130 = .ok (.iload 5, 2) := by decide +kernel
theorem dX12_sends_132 : decode cX12_sends 132 = .ok (.iconst 0, 1) := by decide +kernel
theorem dX12_sends_133 : decode cX12_sends 133 = .ok (.iload_n 2, 1) := by decide +kernel
theorem dX12_sends_134 : decode cX12_sends 134 = .ok (.invokevirtual 482, 3) := by decide +kernel
theorem dX12_sends_137 : decode cX12_sends 137 = .ok (.aload_n 0, 1) := by decide +kernel
theorem dX12_sends_138 : decode cX12_sends 138 = .ok (.iload_n 1, 1) := by decide +kernel
theorem dX12_sends_139 : decode cX12_sends 139 = .ok (.iload 5, 2) := by decide +kernel
theorem dX12_sends_141 : decode cX12_sends 141 = .ok (.iconst 1, 1) := by decide +kernel
theorem dX12_sends_142 : decode cX12_sends 142 = .ok (.iload 6, 2) := by decide +kernel
theorem dX12_sends_144 : decode cX12_sends 144 = .ok (.invokevirtual 482, 3) := by decide +kernel
theorem dX12_sends_147 : decode cX12_sends 147 = .ok (.aload_n 0, 1) := by decide +kernel
theorem dX12_sends_148 : decode cX12_sends 148 = .ok (.iload_n 1, 1) := by decide +kernel
theorem dX12_sends_149 : decode cX12_sends 149 = .ok (.iload 5, 2) := by decide +kernel
theorem dX12_sends_151 : decode cX12_sends 151 = .ok (.iconst 2, 1) := by decide +kernel
theorem dX12_sends_152 : decode cX12_sends 152 = .ok (.iload_n 3, 1) := by decide +kernel
theorem dX12_sends_153 : decode cX12_sends 153 = .ok (.invokevirtual 482, 3) := by decide +kernel
theorem dX12_sends_156 : decode cX12_sends 156 = .ok (.aload_n 0, 1) := by decide +kernel
theorem dX12_sends_157 : decode cX12_sends 157 = .ok (.iload_n 1, 1) := by decide +kernel
theorem dX12_sends_158 : decode cX12_sends 158 = .ok (.iload 5, 2) := by decide +kernel
theorem dX12_sends_160 : decode cX12_sends 160 = .ok (.iconst 3, 1) := by decide +kernel
theorem dX12_sends_161 : decode cX12_sends 161 = .ok (.iload 4, 2) := by decide +kernel
theorem dX12_sends_163 : decode cX12_sends 163 = .ok (.invokevirtual 482, 3) := by decide +kernel
theorem dX12_sends_166 : decode cX12_sends 166 = .ok (.aload_n 0, 1) := by decide +kernel
theorem dX12_sends_167 : decode cX12_sends 167 = .ok (.iload_n 1, 1) := by decide +kernel
theorem dX12_sends_168 : decode cX12_sends 168 = .ok (.iload 5, 2) := by decide +kernel
theorem dX12_sends_170 : decode cX12_sends 170 = .ok (.iconst 4, 1) := by decide +kernel
theorem dX12_sends_171 : decode cX12_sends 171 = .ok (.aload_n 0, 1) := by decide +kernel
theorem dX12_sends_172 : decode cX12_sends 172 = .ok (.iload_n 1, 1) := by decide +kernel
theorem dX12_sends_173 : decode cX12_sends 173 = .ok (.iconst 0, 1) := by decide +kernel
theorem dX12_sends_174 : decode cX12_sends 174 = .ok (.invokevirtual 402, 3) := by decide +kernel
theorem dX12_sends_177 : decode cX12_sends 177 = .ok (.invokevirtual 482, 3) := by decide +kernel
theorem dX12_sends_180 : decode cX12_sends 180 = .ok (.aload_n 0, 1) := by decide +kernel
theorem dX12_sends_181 : decode cX12_sends 181 = .ok (.iload_n 1, 1) := by decide +kernel
theorem dX12_sends_182 : decode cX12_sends 182 = .ok (.iload 5, 2) := by decide +kernel
theorem dX12_sends_184 : decode cX12_sends 184 = .ok (.iconst 5, 1) := by decide +kernel
theorem dX12_sends_185 : decode cX12_sends 185 = .ok (.iload 7, 2) := by decide +kernel
theorem dX12_sends_187 : decode cX12_sends 187 = .ok (.ifCond .eq 7, 3) := by decide +kernel
theorem dX12_sends_190 : decode cX12_sends 190 = .ok (.iconst (-1), 1) := by decide +kernel
theorem dX12_sends_191 : decode cX12_sends 191 = .ok (.goto 16, 3) := by decide +kernel
theorem dX12_sends_194 : decode cX12_sends 194 = .ok (.aload_n 0, 1) := by decide +kernel
theorem dX12_sends_195 : decode cX12_sends 195 = .ok (.iload_n 1, 1) := by decide +kernel
theorem dX12_sends_196 : decode cX12_sends 196 = .ok (.iconst 0, 1) := by decide +kernel
theorem dX12_sends_197 : decode cX12_sends 197 = .ok (.invokevirtual 402, 3) := by decide +kernel
theorem dX12_sends_200 : decode cX12_sends 200 = .ok (.aload_n 0, 1) := by decide +kernel
theorem dX12_sends_201 : decode cX12_sends 201 = .ok (.getfield 176, 3) := by decide +kernel
theorem dX12_sends_204 : decode cX12_sends 204 = .ok (.iload_n 2, 1) := by decide +kernel
theorem dX12_sends_205 : decode cX12_sends 205 = .ok (.iaload, 1) := by decide +kernel
theorem dX12_sends_206 : decode cX12_sends 206 = .ok (.iadd, 1) := by decide +kernel
theorem dX12_sends_207 : decode cX12_sends 207 = .ok (.invokevirtual 482, 3) := by decide +kernel
theorem dX12_sends_210 : decode cX12_sends 210 = .ok (.aload_n 0, 1) := by decide +kernel
theorem dX12_sends_211 : decode cX12_sends 211 = .ok (.iload_n 1, 1) := by decide +kernel
theorem dX12_sends_212 : decode cX12_sends 212 = .ok (.iload 5, 2) := by decide +kernel
theorem dX12_sends_214 : decode cX12_sends 214 = .ok (.bipush 6, 2) := by decide +kernel
theorem dX12_sends_216 : decode cX12_sends 216 = .ok (.iconst 1, 1) := by decide +kernel
theorem dX12_sends_217 : decode cX12_sends 217 = .ok (.invokevirtual 482, 3) := by decide +kernel
theorem dX12_sends_220 : decode cX12_sends 220 = .ok (.aload_n 0, 1) := by decide +kernel
theorem dX12_sends_221 : decode cX12_sends 221 = .ok (.iload_n 1, 1) := by decide +kernel
theorem dX12_sends_222 : decode cX12_sends 222 = .ok (.iload 5, 2) := by decide +kernel
theorem dX12_sends_224 : decode cX12_sends 224 = .ok (.bipush 7, 2) := by decide +kernel
theorem dX12_sends_226 : decode cX12_sends 226 = .ok (.aload_n 0, 1) := by decide +kernel
theorem dX12_sends_227 : decode cX12_sends 227 = .ok (.iload_n 1, 1) := by decide +kernel
theorem dX12_sends_228 : decode cX12_sends 228 = .ok (.iload_n 2, 1) := by decide +kernel
theorem dX12_sends_229 : decode cX12_sends 229 = .ok (.iconst 5, 1) := by decide +kernel
theorem dX12_sends_230 : decode cX12_sends 230 = .ok (.invokevirtual 438, 3) := by decide +kernel
theorem dX12_sends_233 : decode cX12_sends 233 = .ok (.invokevirtual 482, 3) := by decide +kernel
theorem dX12_sends_236 : decode cX12_sends 236 = .ok (.aload_n 0, 1) := by decide +kernel
theorem dX12_sends_237 : decode cX12_sends 237 = .ok (.iload_n 1, 1) := by decide +kernel
theorem dX12_sends_238 : decode cX12_sends 238 = .ok (.iload_n 2, 1) := by decide +kernel
theorem dX12_sends_239 : decode cX12_sends 239 = .ok (.iconst 5, 1) := by decide +kernel
theorem dX12_sends_240 : decode cX12_sends 240 = .ok (.iconst 0, 1) := by decide +kernel
theorem dX12_sends_241 : decode cX12_sends 241 = .ok (.invokevirtual 412, 3) := by decide +kernel
theorem dX12_sends_244 : decode cX12_sends 244 = .ok (.aload_n 0, 1) := by decide +kernel
theorem dX12_sends_245 : decode cX12_sends 245 = .ok (.iload_n 1, 1) := by decide +kernel
theorem dX12_sends_246 : decode cX12_sends 246 = .ok (.iload_n 2, 1) := by decide +kernel
theorem dX12_sends_247 : decode cX12_sends 247 = .ok (.iconst 4, 1) := by decide +kernel
theorem dX12_sends_248 : decode cX12_sends 248 = .ok (.iload 6, 2) := by decide +kernel
theorem dX12_sends_250 : decode cX12_sends 250 = .ok (.iconst 1, 1) := by decide +kernel
theorem dX12_sends_251 : decode cX12_sends 251 = .ok (.iadd, 1) := by decide +kernel
theorem dX12_sends_252 : decode cX12_sends 252 = .ok (.invokevirtual 412, 3) := by decide +kernel
theorem dX12_sends_255 : decode cX12_sends 255 = .ok (.aload_n 0, 1) := by decide +kernel
theorem dX12_sends_256 : decode cX12_sends 256 = .ok (.iload_n 1, 1) := by decide +kernel
theorem dX12_sends_257 : decode cX12_sends 257 = .ok (.bipush 6, 2) := by decide +kernel
theorem dX12_sends_259 : decode cX12_sends 259 = .ok (.iload 5, 2) := by decide +kernel
theorem dX12_sends_261 : decode cX12_sends 261 = .ok (.iconst 1, 1) := by decide +kernel
theorem dX12_sends_262 : decode cX12_sends 262 = .ok (.iadd, 1) := by decide +kernel
theorem dX12_sends_263 : decode cX12_sends 263 = .ok (.invokevirtual 405, 3) := by decide +kernel
theorem dX12_sends_266 : decode cX12_sends 266 = .ok (.aload_n 0, 1) := by decide +kernel
theorem dX12_sends_267 : decode cX12_sends 267 = .ok (.iload_n 1, 1) := by decide +kernel
theorem dX12_sends_268 : decode cX12_sends 268 = .ok (.iconst 5, 1) := by decide +kernel
theorem dX12_sends_269 : decode cX12_sends 269 = .ok (.aload_n 0, 1) := by decide +kernel
theorem dX12_sends_270 : decode cX12_sends 270 = .ok (.iload_n 1, 1) := by decide +kernel
theorem dX12_sends_271 : decode cX12_sends 271 = .ok (.iconst 5, 1) := by decide +kernel
theorem dX12_sends_272 : decode cX12_sends 272 = .ok (.invokevirtual 402, 3) := by decide +kernel
theorem dX12_sends_275 : decode cX12_sends 275 = .ok (.iload 4, 2) := by decide +kernel
theorem dX12_sends_277 : decode cX12_sends 277 = .ok (.iadd, 1) := by decide +kernel
theorem dX12_sends_278 : decode cX12_sends 278 = .ok (.invokevirtual 405, 3) := by decide +kernel
theorem dX12_sends_281 : decode cX12_sends 281 = .ok (.return_, 1) := by decide +kernel
theorem dX12_isPiece_0 : decode cX12_isPiece 0 = .ok (.iconst 0, 1) := by decide +kernel
theorem dX12_isPiece_1 : decode cX12_isPiece 1 = .ok (.istore_n 2, 1) := by decide +kernel
theorem dX12_isPiece_2 : decode cX12_isPiece 2 = .ok (.aload_n 0, 1) := by decide +kernel
theorem dX12_isPiece_3 : decode cX12_isPiece 3 = .ok (.iload_n 1, 1) := by decide +kernel
theorem dX12_isPiece_4 : decode cX12_isPiece 4 = .ok (.bipush 7, 2) := by decide +kernel
theorem dX12_isPiece_6 : decode cX12_isPiece 6 = .ok (.invokevirtual 402, 3) := by decide +kernel
theorem dX12_isPiece_9 : decode cX12_isPiece 9 = .ok (.istore_n 3, 1) := by decide +kernel
theorem dX12_isPiece_10 : decode cX12_isPiece 10 = .ok (.sipush 960, 3) := by decide +kernel
theorem dX12_isPiece_13 : decode cX12_isPiece 13 = .ok (.iload_n 1, 1) := by decide +kernel
theorem dX12_isPiece_14 : decode cX12_isPiece 14 = .ok (.imul, 1) := by decide +kernel
theorem dX12_isPiece_15 : decode cX12_isPiece 15 = .ok (.istore 4, 2) := by decide +kernel
theorem dX12_isPiece_17 : decode cX12_isPiece 17 = .ok (.iload_n 2, 1) := by decide +kernel
theorem dX12_isPiece_18 : decode cX12_isPiece 18 = .ok (.iload_n 3, 1) := by decide +kernel
theorem dX12_isPiece_19 : decode cX12_isPiece 19 = .ok (.if_icmp .ge 43, 3) := by decide +kernel
theorem dX12_isPiece_22 : decode cX12_isPiece 22 = .ok (.aload_n 0, 1) := by decide +kernel
theorem dX12_isPiece_23 : decode cX12_isPiece 23 = .ok (.getfield 151, 3) := by decide +kernel
theorem dX12_isPiece_26 : decode cX12_isPiece 26 = .ok (.iload 4, 2) := by decide +kernel
theorem dX12_isPiece_28 : decode cX12_isPiece 28 = .ok (.iconst 2, 1) := by decide +kernel
theorem dX12_isPiece_29 : decode cX12_isPiece 29 = .ok (.iload_n 2, 1) := by decide +kernel
theorem dX12_isPiece_30 : decode cX12_isPiece 30 = .ok (.imul, 1) := by decide +kernel
theorem dX12_isPiece_31 : decode cX12_isPiece 31 = .ok (.iadd, 1) := by decide +kernel
theorem dX12_isPiece_32 : decode cX12_isPiece 32 = .ok (.iaload, 1) := by decide +kernel
theorem dX12_isPiece_33 : decode cX12_isPiece 33 = .ok (.aload_n 0, 1) := by decide +kernel
theorem dX12_isPiece_34 : decode cX12_isPiece 34 = .ok (.getfield 151, 3) := by decide +kernel
theorem dX12_isPiece_37 : decode cX12_isPiece 37 = .ok (.iload 4, 2) := by decide +kernel
theorem dX12_isPiece_39 : decode cX12_isPiece 39 = .ok (.iconst 2, 1) := by decide +kernel
theorem dX12_isPiece_40 : decode cX12_isPiece 40 = .ok (.iload_n 2, 1) := by decide +kernel
theorem dX12_isPiece_41 : decode cX12_isPiece 41 = .ok (.imul, 1) := by decide +kernel
theorem dX12_isPiece_42 : decode cX12_isPiece 42 = .ok (.iadd, 1) := by decide +kernel
theorem dX12_isPiece_43 : decode cX12_isPiece 43 = .ok (.iconst 1, 1) := by decide +kernel
theorem dX12_isPiece_44 : decode cX12_isPiece 44 = .ok (.iadd, 1) := by decide +kernel
theorem dX12_isPiece_45 : decode cX12_isPiece 45 = .ok (.iaload, 1) := by decide +kernel
theorem dX12_isPiece_46 : decode cX12_isPiece 46 = .ok (.iadd, 1) := by decide +kernel
theorem dX12_isPiece_47 : decode cX12_isPiece 47 = .ok (.aload_n 0, 1) := by decide +kernel
theorem dX12_isPiece_48 : decode cX12_isPiece 48 = .ok (.iload_n 1, 1) := by decide +kernel
theorem dX12_isPiece_49 : decode cX12_isPiece 49 = .ok (.iconst 2, 1) := by decide +kernel
theorem dX12_isPiece_50 : decode cX12_isPiece 50 = .ok (.invokevirtual 402, 3) := by decide +kernel
theorem dX12_isPiece_53 : decode cX12_isPiece 53 = .ok (.if_icmp .gt 9, 3) := by decide +kernel
theorem dX12_isPiece_56 : decode cX12_isPiece 56 = .ok (.iinc 2 1, 3) := by decide +kernel
theorem dX12_isPiece_59 : decode cX12_isPiece 59 = .ok (.goto (-42), 3) := by decide +kernel
theorem dX12_isPiece_62 : decode cX12_isPiece 62 = .ok (.aload_n 0, 1) := by decide +kernel
theorem dX12_isPiece_63 : decode cX12_isPiece 63 = .ok (.iload_n 1, 1) := by decide +kernel
theorem dX12_isPiece_64 : decode cX12_isPiece 64 = .ok (.iload_n 2, 1) := by decide +kernel
theorem dX12_isPiece_65 : decode cX12_isPiece 65 = .ok (.invokevirtual 522, 3) := by decide +kernel
theorem dX12_isPiece_68 : decode cX12_isPiece 68 = .ok (.iload_n 3, 1) := by decide +kernel
theorem dX12_isPiece_69 : decode cX12_isPiece 69 = .ok (.iload_n 2, 1) := by decide +kernel
theorem dX12_isPiece_70 : decode cX12_isPiece 70 = .ok (.if_icmp .le 7, 3) := by decide +kernel
theorem dX12_isPiece_73 : decode cX12_isPiece 73 = .ok (.iconst 1, 1) := by decide +kernel
theorem dX12_isPiece_74 : decode cX12_isPiece 74 = .ok (.goto 4, 3) := by decide +kernel
theorem dX12_isPiece_77 : decode cX12_isPiece 77 = .ok (.iconst 0, 1) := by decide +kernel
theorem dX12_isPiece_78 : decode cX12_isPiece 78 = .ok (.ireturn, 1) := by decide +kernel
theorem dX12_shifts_0 : decode cX12_shifts 0 = .ok (.iload_n 2, 1) := by decide +kernel
theorem dX12_shifts_1 : decode cX12_shifts 1 = .ok (.ifCond .ne 4, 3) := by decide +kernel
theorem dX12_shifts_4 : decode cX12_shifts 4 = .ok (.return_, 1) := by decide +kernel
theorem dX12_shifts_5 : decode cX12_shifts 5 = .ok (.sipush 960, 3) := by decide +kernel
theorem dX12_shifts_8 : decode cX12_shifts 8 = .ok (.iload_n 1, 1) := by decide +kernel
theorem dX12_shifts_9 : decode cX12_shifts 9 = .ok (.imul, 1) := by decide +kernel
theorem dX12_shifts_10 : decode cX12_shifts 10 = .ok (.istore_n 3, 1) := by decide +kernel
theorem dX12_shifts_11 : decode cX12_shifts 11 = .ok (.aload_n 0, 1) := by decide +kernel
theorem dX12_shifts_12 : decode cX12_shifts 12 = .ok (.iload_n 1, 1) := by decide +kernel
theorem dX12_shifts_13 : decode cX12_shifts 13 = .ok (.bipush 7, 2) := by decide +kernel
theorem dX12_shifts_15 : decode cX12_shifts 15 = .ok (.invokevirtual 402, 3) := by decide +kernel
theorem dX12_shifts_18 : decode cX12_shifts 18 = .ok (.iload_n 2, 1) := by decide +kernel
theorem dX12_shifts_19 : decode cX12_shifts 19 = .ok (.isub, 1) := by decide +kernel
theorem dX12_shifts_20 : decode cX12_shifts 20 = .ok (.istore 4, 2) := by decide +kernel
theorem dX12_shifts_22 : decode cX12_shifts 22 = .ok (.iconst 0, 1) := by decide +kernel
theorem dX12_shifts_23 : decode cX12_shifts 23 = .ok (.istore 5, 2) := by decide +kernel
theorem dX12_shifts_25 : decode cX12_shifts 25 = .ok (.iload 5, 2) := by decide +kernel
theorem dX12_shifts_27 : decode cX12_shifts 27 = .ok (.iconst 2, 1) := by decide +kernel
theorem dX12_shifts_28 : decode cX12_shifts 28 = .ok (.iload 4, 2) := by decide +kernel
theorem dX12_shifts_30 : decode cX12_shifts 30 = .ok (.imul, 1) := by decide +kernel
theorem dX12_shifts_31 : decode cX12_shifts 31 = .ok (.if_icmp .ge 31, 3) := by decide +kernel
theorem dX12_shifts_34 : decode cX12_shifts 34 = .ok (.aload_n 0, 1) := by decide +kernel
theorem dX12_shifts_35 : decode cX12_shifts 35 = .ok (.getfield 151, 3) := by decide +kernel
theorem dX12_shifts_38 : decode cX12_shifts 38 = .ok (.iload_n 3, 1) := by decide +kernel
theorem dX12_shifts_39 : decode cX12_shifts 39 = .ok (.iload 5, 2) := by decide +kernel
theorem dX12_shifts_41 : decode cX12_shifts 41 = .ok (.iadd, 1) := by decide +kernel
theorem dX12_shifts_42 : decode cX12_shifts 42 = .ok (.aload_n 0, 1) := by decide +kernel
theorem dX12_shifts_43 : decode cX12_shifts 43 = .ok (.getfield 151, 3) := by decide +kernel
theorem dX12_shifts_46 : decode cX12_shifts 46 = .ok (.iload_n 3, 1) := by decide +kernel
theorem dX12_shifts_47 : decode cX12_shifts 47 = .ok (.iload 5, 2) := by decide +kernel
theorem dX12_shifts_49 : decode cX12_shifts 49 = .ok (.iadd, 1) := by decide +kernel
theorem dX12_shifts_50 : decode cX12_shifts 50 = .ok (.iconst 2, 1) := by decide +kernel
theorem dX12_shifts_51 : decode cX12_shifts 51 = .ok (.iload_n 2, 1) := by decide +kernel
theorem dX12_shifts_52 : decode cX12_shifts 52 = .ok (.imul, 1) := by decide +kernel
theorem dX12_shifts_53 : decode cX12_shifts 53 = .ok (.iadd, 1) := by decide +kernel
theorem dX12_shifts_54 : decode cX12_shifts 54 = .ok (.iaload, 1) := by decide +kernel
theorem dX12_shifts_55 : decode cX12_shifts 55 = .ok (.iastore, 1) := by decide +kernel
theorem dX12_shifts_56 : decode cX12_shifts 56 = .ok (.iinc 5 1, 3) := by decide +kernel
theorem dX12_shifts_59 : decode cX12_shifts 59 = .ok (.goto (-34), 3) := by decide +kernel
theorem dX12_shifts_62 : decode cX12_shifts 62 = .ok (.aload_n 0, 1) := by decide +kernel
theorem dX12_shifts_63 : decode cX12_shifts 63 = .ok (.iload_n 1, 1) := by decide +kernel
theorem dX12_shifts_64 : decode cX12_shifts 64 = .ok (.bipush 7, 2) := by decide +kernel
theorem dX12_shifts_66 : decode cX12_shifts 66 = .ok (.iload 4, 2) := by decide +kernel
theorem dX12_shifts_68 : decode cX12_shifts 68 = .ok (.invokevirtual 405, 3) := by decide +kernel
theorem dX12_shifts_71 : decode cX12_shifts 71 = .ok (.return_, 1) := by decide +kernel
theorem dX12_blocking_0 : decode cX12_blocking 0 = .ok (.iconst 0, 1) := by decide +kernel
theorem dX12_blocking_1 : decode cX12_blocking 1 = .ok (.istore_n 2, 1) := by decide +kernel
theorem dX12_blocking_2 : decode cX12_blocking 2 = .ok (.iload_n 2, 1) := by decide +kernel
theorem dX12_blocking_3 : decode cX12_blocking 3 = .ok (.aload_n 0, 1) := by decide +kernel
theorem dX12_blocking_4 : decode cX12_blocking 4 = .ok (.iload_n 1, 1) := by decide +kernel
theorem dX12_blocking_5 : decode cX12_blocking 5 = .ok (.bipush 6, 2) := by decide +kernel
theorem dX12_blocking_7 : decode cX12_blocking 7 = .ok (.invokevirtual 402, 3) := by decide +kernel
theorem dX12_blocking_10 : decode cX12_blocking 10 = .ok (.if_icmp .ge 59, 3) := by decide +kernel
theorem dX12_blocking_13 : decode cX12_blocking 13 = .ok (.aload_n 0, 1) := by decide +kernel
theorem dX12_blocking_14 : decode cX12_blocking 14 = .ok (.iload_n 1, 1) := by decide +kernel
theorem dX12_blocking_15 : decode cX12_blocking 15 = .ok (.iload_n 2, 1) := by decide +kernel
theorem dX12_blocking_16 : decode cX12_blocking 16 = .ok (.bipush 6, 2) := by decide +kernel
theorem dX12_blocking_18 : decode cX12_blocking 18 = .ok (.invokevirtual 445, 3) := by decide +kernel
theorem dX12_blocking_21 : decode cX12_blocking 21 = .ok (.iconst 1, 1) := by decide +kernel
theorem dX12_blocking_22 : decode cX12_blocking 22 = .ok (.if_icmp .ne 41, 3) := by decide +kernel
theorem dX12_blocking_25 : decode cX12_blocking 25 = .ok (.aload_n 0, 1) := by decide +kernel
theorem dX12_blocking_26 : decode cX12_blocking 26 = .ok (.iload_n 1, 1) := by decide +kernel
theorem dX12_blocking_27 : decode cX12_blocking 27 = .ok (.iconst 2, 1) := by decide +kernel
theorem dX12_blocking_28 : decode cX12_blocking 28 = .ok (.invokevirtual 402, 3) := by decide +kernel
theorem dX12_blocking_31 : decode cX12_blocking 31 = .ok (.aload_n 0, 1) := by decide +kernel
theorem dX12_blocking_32 : decode cX12_blocking 32 = .ok (.iload_n 1, 1) := by decide +kernel
theorem dX12_blocking_33 : decode cX12_blocking 33 = .ok (.iload_n 2, 1) := by decide +kernel
theorem dX12_blocking_34 : decode cX12_blocking 34 = .ok (.iconst 2, 1) := by decide +kernel
theorem dX12_blocking_35 : decode cX12_blocking 35 = .ok (.invokevirtual 445, 3) := by decide +kernel
theorem dX12_blocking_38 : decode cX12_blocking 38 = .ok (.aload_n 0, 1) := by decide +kernel
theorem dX12_blocking_39 : decode cX12_blocking 39 = .ok (.iload_n 1, 1) := by decide +kernel
theorem dX12_blocking_40 : decode cX12_blocking 40 = .ok (.iload_n 2, 1) := by decide +kernel
theorem dX12_blocking_41 : decode cX12_blocking 41 = .ok (.iconst 2, 1) := by decide +kernel
theorem dX12_blocking_42 : decode cX12_blocking 42 = .ok (.invokevirtual 445, 3) := by decide +kernel
theorem dX12_blocking_45 : decode cX12_blocking 45 = .ok (.aload_n 0, 1) := by decide +kernel
theorem dX12_blocking_46 : decode cX12_blocking 46 = .ok (.iload_n 1, 1) := by decide +kernel
theorem dX12_blocking_47 : decode cX12_blocking 47 = .ok (.iload_n 2, 1) := by decide +kernel
theorem dX12_blocking_48 : decode cX12_blocking 48 = .ok (.iconst 3, 1) := by decide +kernel
theorem dX12_blocking_49 : decode cX12_blocking 49 = .ok (.invokevirtual 445, 3) := by decide +kernel
theorem dX12_blocking_52 : decode cX12_blocking 52 = .ok (.iadd, 1) := by decide +kernel
theorem dX12_blocking_53 : decode cX12_blocking 53 = .ok (.iconst 1, 1) := by decide +kernel
theorem dX12_blocking_54 : decode cX12_blocking 54 = .ok (.isub, 1) := by decide +kernel
theorem dX12_blocking_55 : decode cX12_blocking 55 = .ok (.invokestatic 310, 3) := by decide +kernel
theorem dX12_blocking_58 : decode cX12_blocking 58 = .ok (.ifCond .eq 5, 3) := by decide +kernel
theorem dX12_blocking_61 : decode cX12_blocking 61 = .ok (.iload_n 2, 1) := by decide +kernel
theorem dX12_blocking_62 : decode cX12_blocking 62 = .ok (.ireturn, 1) := by decide +kernel
theorem dX12_blocking_63 : decode cX12_blocking 63 = .ok (.iinc 2 1, 3) := by decide +kernel
theorem dX12_blocking_66 : decode cX12_blocking 66 = .ok (.goto (-64), 3) := by decide +kernel
theorem dX12_blocking_69 : decode cX12_blocking 69 = .ok (.iconst (-1), 1) := by decide +kernel
theorem dX12_blocking_70 : decode cX12_blocking 70 = .ok (.ireturn, 1) := by decide +kernel
theorem dX12_isPenalised_0 : decode cX12_isPenalised 0 = .ok (.aload_n 0, 1) := by decide +kernel
theorem dX12_isPenalised_1 : decode cX12_isPenalised 1 = .ok (.getfield 54, 3) := by decide +kernel
theorem dX12_isPenalised_4 : decode cX12_isPenalised 4 = .ok (.aload_n 0, 1) := by decide +kernel
theorem dX12_isPenalised_5 : decode cX12_isPenalised 5 = .ok (.getfield 51, 3) := by decide +kernel
theorem dX12_isPenalised_8 : decode cX12_isPenalised 8 = .ok (.iaload, 1) := by decide +kernel
theorem dX12_isPenalised_9 : decode cX12_isPenalised 9 = .ok (.istore_n 2, 1) := by decide +kernel
theorem dX12_isPenalised_10 : decode cX12_isPenalised 10 = .ok (.aload_n 0, 1) := by decide +kernel
theorem dX12_isPenalised_11 : decode cX12_isPenalised 11 = .ok (.iload_n 1, 1) := by decide +kernel
theorem dX12_isPenalised_12 : decode cX12_isPenalised 12 = .ok (.iconst 1, 1) := by decide +kernel
theorem dX12_isPenalised_13 : decode cX12_isPenalised 13 = .ok (.invokevirtual 402, 3) := by decide +kernel
theorem dX12_isPenalised_16 : decode cX12_isPenalised 16 = .ok (.aload_n 0, 1) := by decide +kernel
theorem dX12_isPenalised_17 : decode cX12_isPenalised 17 = .ok (.iload_n 1, 1) := by decide +kernel
theorem dX12_isPenalised_18 : decode cX12_isPenalised 18 = .ok (.iconst 3, 1) := by decide +kernel
theorem dX12_isPenalised_19 : decode cX12_isPenalised 19 = .ok (.invokevirtual 402, 3) := by decide +kernel
theorem dX12_isPenalised_22 : decode cX12_isPenalised 22 = .ok (.if_icmp .ne 21, 3) := by decide +kernel
theorem dX12_isPenalised_25 : decode cX12_isPenalised 25 = .ok (.aload_n 0, 1) := by decide +kernel
theorem dX12_isPenalised_26 : decode cX12_isPenalised 26 = .ok (.iload_n 1, 1) := by decide +kernel
theorem dX12_isPenalised_27 : decode cX12_isPenalised 27 = .ok (.iconst 1, 1) := by decide +kernel
theorem dX12_isPenalised_28 : decode cX12_isPenalised 28 = .ok (.invokevirtual 402, 3) := by decide +kernel
theorem dX12_isPenalised_31 : decode cX12_isPenalised 31 = .ok (.iload_n 2, 1) := by decide +kernel
theorem dX12_isPenalised_32 : decode cX12_isPenalised 32 = .ok (.if_icmp .ge 11, 3) := by decide +kernel
theorem dX12_isPenalised_35 : decode cX12_isPenalised 35 = .ok (.aload_n 0, 1) := by decide +kernel
theorem dX12_isPenalised_36 : decode cX12_isPenalised 36 = .ok (.iload_n 1, 1) := by decide +kernel
theorem dX12_isPenalised_37 : decode cX12_isPenalised 37 = .ok (.invokevirtual 525, 3) := by decide +kernel
theorem dX12_isPenalised_40 : decode cX12_isPenalised 40 = .ok (.goto 4, 3) := by decide +kernel
theorem dX12_isPenalised_43 : decode cX12_isPenalised 43 = .ok (.iconst (-1), 1) := by decide +kernel
theorem dX12_isPenalised_44 : decode cX12_isPenalised 44 = .ok (.istore_n 3, 1) := by decide +kernel
theorem dX12_isPenalised_45 : decode cX12_isPenalised 45 = .ok (.iload_n 3, 1) := by decide +kernel
theorem dX12_isPenalised_46 : decode cX12_isPenalised 46 = .ok (.iconst (-1), 1) := by decide +kernel
theorem dX12_isPenalised_47 : decode cX12_isPenalised 47 = .ok (.if_icmp .ne 7, 3) := by decide +kernel
theorem dX12_isPenalised_50 : decode cX12_isPenalised 50 = .ok (.iconst (-1), 1) := by decide +kernel
theorem dX12_isPenalised_51 : decode cX12_isPenalised 51 = .ok (.goto 10, 3) := by decide +kernel
theorem dX12_isPenalised_54 : decode cX12_isPenalised 54 = .ok (.aload_n 0, 1) := by decide +kernel
theorem dX12_isPenalised_55 : decode cX12_isPenalised 55 = .ok (.iload_n 1, 1) := by decide +kernel
theorem dX12_isPenalised_56 : decode cX12_isPenalised 56 = .ok (.iload_n 3, 1) := by decide +kernel
theorem dX12_isPenalised_57 : decode cX12_isPenalised 57 = .ok (.iconst 0, 1) := by decide +kernel
theorem dX12_isPenalised_58 : decode cX12_isPenalised 58 = .ok (.invokevirtual 445, 3) := by decide +kernel
theorem dX12_isPenalised_61 : decode cX12_isPenalised 61 = .ok (.istore 4, 2) := by decide +kernel
theorem dX12_isPenalised_63 : decode cX12_isPenalised 63 = .ok (.iload_n 3, 1) := by decide +kernel
theorem dX12_isPenalised_64 : decode cX12_isPenalised 64 = .ok (.iconst (-1), 1) := by decide +kernel
theorem dX12_isPenalised_65 : decode cX12_isPenalised 65 = .ok (.if_icmp .ne 7, 3) := by decide +kernel
theorem dX12_isPenalised_68 : decode cX12_isPenalised 68 = .ok (.iconst (-1), 1) := by decide +kernel
theorem dX12_isPenalised_69 : decode cX12_isPenalised 69 = .ok (.goto 10, 3) := by decide +kernel
theorem dX12_isPenalised_72 : decode cX12_isPenalised 72 = .ok (.aload_n 0, 1) := by decide +kernel
theorem dX12_isPenalised_73 : decode cX12_isPenalised 73 = .ok (.iload_n 1, 1) := by decide +kernel
theorem dX12_isPenalised_74 : decode cX12_isPenalised 74 = .ok (.iload 4, 2) := by decide +kernel
theorem dX12_isPenalised_76 : decode cX12_isPenalised 76 = .ok (.invokevirtual 528, 3) := by decide +kernel
theorem dX12_isPenalised_79 : decode cX12_isPenalised 79 = .ok (.istore 5, 2) := by decide +kernel
theorem dX12_isPenalised_81 : decode cX12_isPenalised 81 = .ok (.iload 5, 2) := by decide +kernel
theorem dX12_isPenalised_83 : decode cX12_isPenalised 83 = .ok (.iconst (-1), 1) := by decide +kernel
theorem dX12_isPenalised_84 : decode cX12_isPenalised 84 = .ok (.if_icmp .ne 5, 3) := by decide +kernel
theorem dX12_isPenalised_87 : decode cX12_isPenalised 87 = .ok (.iconst 0, 1) := by decide +kernel
theorem dX12_isPenalised_88 : decode cX12_isPenalised 88 = .ok (.ireturn, 1) := by decide +kernel
theorem dX12_isPenalised_89 : decode cX12_isPenalised 89 = .ok (.aload_n 0, 1) := by decide +kernel
theorem dX12_isPenalised_90 : decode cX12_isPenalised 90 = .ok (.iload_n 1, 1) := by decide +kernel
theorem dX12_isPenalised_91 : decode cX12_isPenalised 91 = .ok (.iload 5, 2) := by decide +kernel
theorem dX12_isPenalised_93 : decode cX12_isPenalised 93 = .ok (.aload_n 0, 1) := by decide +kernel
theorem dX12_isPenalised_94 : decode cX12_isPenalised 94 = .ok (.iload_n 1, 1) := by decide +kernel
theorem dX12_isPenalised_95 : decode cX12_isPenalised 95 = .ok (.iload_n 3, 1) := by decide +kernel
theorem dX12_isPenalised_96 : decode cX12_isPenalised 96 = .ok (.iconst 2, 1) := by decide +kernel
theorem dX12_isPenalised_97 : decode cX12_isPenalised 97 = .ok (.invokevirtual 445, 3) := by decide +kernel
theorem dX12_isPenalised_100 : decode cX12_isPenalised 100 = .ok (.aload_n 0, 1) := by decide +kernel
theorem dX12_isPenalised_101 : decode cX12_isPenalised 101 = .ok (.iload_n 1, 1) := by decide +kernel
theorem dX12_isPenalised_102 : decode cX12_isPenalised 102 = .ok (.iload_n 3, 1) := by decide +kernel
theorem dX12_isPenalised_103 : decode cX12_isPenalised 103 = .ok (.iconst 3, 1) := by decide +kernel
theorem dX12_isPenalised_104 : decode cX12_isPenalised 104 = .ok (.invokevirtual 445, 3) := by decide +kernel
theorem dX12_isPenalised_107 : decode cX12_isPenalised 107 = .ok (.invokevirtual 531, 3) := by decide +kernel
theorem dX12_isPenalised_110 : decode cX12_isPenalised 110 = .ok (.aload_n 0, 1) := by decide +kernel
theorem dX12_isPenalised_111 : decode cX12_isPenalised 111 = .ok (.iload_n 1, 1) := by decide +kernel
theorem dX12_isPenalised_112 : decode cX12_isPenalised 112 = .ok (.iload 4, 2) := by decide +kernel
theorem dX12_isPenalised_114 : decode cX12_isPenalised 114 = .ok (.iconst 2, 1) := by decide +kernel
theorem dX12_isPenalised_115 : decode cX12_isPenalised 115 = .ok (.aload_n 0, 1) := by decide +kernel
theorem dX12_isPenalised_116 : decode cX12_isPenalised 116 = .ok (.iload_n 1, 1) := by decide +kernel
theorem dX12_isPenalised_117 : decode cX12_isPenalised 117 = .ok (.iload 4, 2) := by decide +kernel
theorem dX12_isPenalised_119 : decode cX12_isPenalised 119 = .ok (.iconst 2, 1) := by decide +kernel
theorem dX12_isPenalised_120 : decode cX12_isPenalised 120 = .ok (.invokevirtual 438, 3) := by decide +kernel
theorem dX12_isPenalised_123 : decode cX12_isPenalised 123 = .ok (.invokestatic 513, 3) := by decide +kernel
theorem dX12_isPenalised_126 : decode cX12_isPenalised 126 = .ok (.invokevirtual 412, 3) := by decide +kernel
theorem dX12_isPenalised_129 : decode cX12_isPenalised 129 = .ok (.aload_n 0, 1) := by decide +kernel
theorem dX12_isPenalised_130 : decode cX12_isPenalised 130 = .ok (.iload_n 1, 1) := by decide +kernel
theorem dX12_isPenalised_131 : decode cX12_isPenalised 131 = .ok (.iconst 1, 1) := by decide +kernel
theorem dX12_isPenalised_132 : decode cX12_isPenalised 132 = .ok (.iload 4, 2) := by decide +kernel
theorem dX12_isPenalised_134 : decode cX12_isPenalised 134 = .ok (.aload_n 0, 1) := by decide +kernel
theorem dX12_isPenalised_135 : decode cX12_isPenalised 135 = .ok (.iload_n 1, 1) := by decide +kernel
theorem dX12_isPenalised_136 : decode cX12_isPenalised 136 = .ok (.iload_n 3, 1) := by decide +kernel
theorem dX12_isPenalised_137 : decode cX12_isPenalised 137 = .ok (.iconst 2, 1) := by decide +kernel
theorem dX12_isPenalised_138 : decode cX12_isPenalised 138 = .ok (.invokevirtual 445, 3) := by decide +kernel
theorem dX12_isPenalised_141 : decode cX12_isPenalised 141 = .ok (.invokevirtual 504, 3) := by decide +kernel
theorem dX12_isPenalised_144 : decode cX12_isPenalised 144 = .ok (.iconst 1, 1) := by decide +kernel
theorem dX12_isPenalised_145 : decode cX12_isPenalised 145 = .ok (.ireturn, 1) := by decide +kernel
theorem dX12_sendsAll_0 : decode cX12_sendsAll 0 = .ok (.iconst 1, 1) := by decide +kernel
theorem dX12_sendsAll_1 : decode cX12_sendsAll 1 = .ok (.istore_n 2, 1) := by decide +kernel
theorem dX12_sendsAll_2 : decode cX12_sendsAll 2 = .ok (.iconst 0, 1) := by decide +kernel
theorem dX12_sendsAll_3 : decode cX12_sendsAll 3 = .ok (.istore_n 3, 1) := by decide +kernel
theorem dX12_sendsAll_4 : decode cX12_sendsAll 4 = .ok (.iload_n 2, 1) := by decide +kernel
theorem dX12_sendsAll_5 : decode cX12_sendsAll 5 = .ok (.ifCond .eq 222, 3) := by decide +kernel
theorem dX12_sendsAll_8 : decode cX12_sendsAll 8 = .ok (.aload_n 0, 1) := by decide +kernel
theorem dX12_sendsAll_9 : decode cX12_sendsAll 9 = .ok (.iload_n 1, 1) := by decide +kernel
theorem dX12_sendsAll_10 : decode cX12_sendsAll 10 = .ok (.iconst 3, 1) := by decide +kernel
theorem dX12_sendsAll_11 : decode cX12_sendsAll 11 = .ok (.invokevirtual 402, 3) := by decide +kernel
theorem dX12_sendsAll_14 : decode cX12_sendsAll 14 = .ok (.aload_n 0, 1) := by decide +kernel
theorem dX12_sendsAll_15 : decode cX12_sendsAll 15 = .ok (.getfield 54, 3) := by decide +kernel
theorem dX12_sendsAll_18 : decode cX12_sendsAll 18 = .ok (.aload_n 0, 1) := by decide +kernel
theorem dX12_sendsAll_19 : decode cX12_sendsAll 19 = .ok (.getfield 51, 3) := by decide +kernel
theorem dX12_sendsAll_22 : decode cX12_sendsAll 22 = .ok (.iaload, 1) := by decide +kernel
theorem dX12_sendsAll_23 : decode cX12_sendsAll 23 = .ok (.if_icmp .ge 12, 3) := by decide +kernel
theorem dX12_sendsAll_26 : decode cX12_sendsAll 26 = .ok (.aload_n 0, 1) := by decide +kernel
theorem dX12_sendsAll_27 : decode cX12_sendsAll 27 = .ok (.iload_n 1, 1) := by decide +kernel
theorem dX12_sendsAll_28 : decode cX12_sendsAll 28 = .ok (.iconst 3, 1) := by decide +kernel
theorem dX12_sendsAll_29 : decode cX12_sendsAll 29 = .ok (.invokevirtual 402, 3) := by decide +kernel
theorem dX12_sendsAll_32 : decode cX12_sendsAll 32 = .ok (.goto 12, 3) := by decide +kernel
theorem dX12_sendsAll_35 : decode cX12_sendsAll 35 = .ok (.aload_n 0, 1) := by decide +kernel
theorem dX12_sendsAll_36 : decode cX12_sendsAll 36 = .ok (.getfield 54, 3) := by decide +kernel
theorem dX12_sendsAll_39 : decode cX12_sendsAll 39 = .ok (.aload_n 0, 1) := by decide +kernel
theorem dX12_sendsAll_40 : decode cX12_sendsAll 40 = .ok (.getfield 51, 3) := by decide +kernel
theorem dX12_sendsAll_43 : decode cX12_sendsAll 43 = .ok (.iaload, 1) := by decide +kernel
theorem dX12_sendsAll_44 : decode cX12_sendsAll 44 = .ok (.istore 4, 2) := by decide +kernel
theorem dX12_sendsAll_46 : decode cX12_sendsAll 46 = .ok (.aload_n 0, 1) := by decide +kernel
theorem dX12_sendsAll_47 : decode cX12_sendsAll 47 = .ok (.iload_n 1, 1) := by decide +kernel
theorem dX12_sendsAll_48 : decode cX12_sendsAll 48 = .ok (.iconst 1, 1) := by decide +kernel
theorem dX12_sendsAll_49 : decode cX12_sendsAll 49 = .ok (.invokevirtual 402, 3) := by decide +kernel
theorem dX12_sendsAll_52 : decode cX12_sendsAll 52 = .ok (.istore 5, 2) := by decide +kernel
theorem dX12_sendsAll_54 : decode cX12_sendsAll 54 = .ok (.aload_n 0, 1) := by decide +kernel
theorem dX12_sendsAll_55 : decode cX12_sendsAll 55 = .ok (.iload_n 1, 1) := by decide +kernel
theorem dX12_sendsAll_56 : decode cX12_sendsAll 56 = .ok (.invokevirtual 534, 3) := by decide +kernel
theorem dX12_sendsAll_59 : decode cX12_sendsAll 59 = .ok (.istore 6, 2) := by decide +kernel
theorem dX12_sendsAll_61 : decode cX12_sendsAll 61 = .ok (.iload 6, 2) := by decide +kernel
theorem dX12_sendsAll_63 : decode cX12_sendsAll 63 = .ok (.ifCond .ne 33, 3) := by decide +kernel
theorem dX12_sendsAll_66 : decode cX12_sendsAll 66 = .ok (.iload 5, 2) := by decide +kernel
theorem dX12_sendsAll_68 : decode cX12_sendsAll 68 = .ok (.iload 4, 2) := by decide +kernel
theorem dX12_sendsAll_70 : decode cX12_sendsAll 70 = .ok (.if_icmp .lt 26, 3) := by decide +kernel
theorem dX12_sendsAll_73 : decode cX12_sendsAll 73 = .ok (.iload_n 3, 1) := by decide +kernel
theorem dX12_sendsAll_74 : decode cX12_sendsAll 74 = .ok (.ifCond .ne 15, 3) := by decide +kernel
theorem dX12_sendsAll_77 : decode cX12_sendsAll 77 = .ok (.aload_n 0, 1) := by decide +kernel
theorem dX12_sendsAll_78 : decode cX12_sendsAll 78 = .ok (.iload_n 1, 1) := by decide +kernel
theorem dX12_sendsAll_79 : decode cX12_sendsAll 79 = .ok (.invokevirtual 537, 3) := by decide +kernel
theorem dX12_sendsAll_82 : decode cX12_sendsAll 82 = .ok (.ifCond .eq 7, 3) := by decide +kernel
theorem dX12_sendsAll_85 : decode cX12_sendsAll 85 = .ok (.iconst 1, 1) := by decide +kernel
theorem dX12_sendsAll_86 : decode cX12_sendsAll 86 = .ok (.goto 4, 3) := by decide +kernel
theorem dX12_sendsAll_89 : decode cX12_sendsAll 89 = .ok (.iconst 0, 1) := by decide +kernel
theorem dX12_sendsAll_90 : decode cX12_sendsAll 90 = .ok (.istore_n 2, 1) := by decide +kernel
theorem dX12_sendsAll_91 : decode cX12_sendsAll 91 = .ok (.iconst 1, 1) := by decide +kernel
theorem dX12_sendsAll_92 : decode cX12_sendsAll 92 = .ok (.istore_n 3, 1) := by decide +kernel
theorem dX12_sendsAll_93 : decode cX12_sendsAll 93 = .ok (.goto (-89), 3) := by decide +kernel
theorem dX12_sendsAll_96 : decode cX12_sendsAll 96 = .ok (.aload_n 0, 1) := by decide +kernel
theorem dX12_sendsAll_97 : decode cX12_sendsAll 97 = .ok (.iload_n 1, 1) := by decide +kernel
theorem dX12_sendsAll_98 : decode cX12_sendsAll 98 = .ok (.iconst (-1), 1) := by decide +kernel
theorem dX12_sendsAll_99 : decode cX12_sendsAll 99 = .ok (.invokevirtual 528, 3) := by decide +kernel
theorem dX12_sendsAll_102 : decode cX12_sendsAll 102 = .ok (.istore 7, 2) := by decide +kernel
theorem dX12_sendsAll_104 : decode cX12_sendsAll 104 = .ok (.iload 7, 2) := by decide +kernel
theorem dX12_sendsAll_106 : decode cX12_sendsAll 106 = .ok (.iconst (-1), 1) := by decide +kernel
theorem dX12_sendsAll_107 : decode cX12_sendsAll 107 = .ok (.if_icmp .eq 7, 3) := by decide +kernel
theorem dX12_sendsAll_110 : decode cX12_sendsAll 110 = .ok (.iconst 1, 1) := by decide +kernel
theorem dX12_sendsAll_111 : decode cX12_sendsAll 111 = .ok (.goto 4, 3) := by decide +kernel
theorem dX12_sendsAll_114 : decode cX12_sendsAll 114 = .ok (.iconst 0, 1) := by decide +kernel
theorem dX12_sendsAll_115 : decode cX12_sendsAll 115 = .ok (.istore_n 2, 1) := by decide +kernel
theorem dX12_sendsAll_116 : decode cX12_sendsAll 116 = .ok (.iload_n 2, 1) := by decide +kernel
theorem dX12_sendsAll_117 : decode cX12_sendsAll 117 = .ok (.ifCond .ne 6, 3) := by decide +kernel
theorem dX12_sendsAll_120 : decode cX12_sendsAll 120 = .ok (.goto (-116), 3) := by decide +kernel
theorem dX12_sendsAll_123 : decode cX12_sendsAll 123 = .ok (.iload 6, 2) := by decide +kernel
theorem dX12_sendsAll_125 : decode cX12_sendsAll 125 = .ok (.ifCond .eq 41, 3) := by decide +kernel
theorem dX12_sendsAll_128 : decode cX12_sendsAll 128 = .ok (.aload_n 0, 1) := by decide +kernel
theorem dX12_sendsAll_129 : decode cX12_sendsAll 129 = .ok (.iload_n 1, 1) := by decide +kernel
theorem dX12_sendsAll_130 : decode cX12_sendsAll 130 = .ok (.iload 7, 2) := by decide +kernel
theorem dX12_sendsAll_132 : decode cX12_sendsAll 132 = .ok (.aload_n 0, 1) := by decide +kernel
theorem dX12_sendsAll_133 : decode cX12_sendsAll 133 = .ok (.getfield 151, 3) := by decide +kernel
theorem dX12_sendsAll_136 : decode cX12_sendsAll 136 = .ok (.sipush 960, 3) := by decide +kernel
theorem dX12_sendsAll_139 : decode cX12_sendsAll 139 = .ok (.iload_n 1, 1) := by decide +kernel
theorem dX12_sendsAll_140 : decode cX12_sendsAll 140 = .ok (.imul, 1) := by decide +kernel
theorem dX12_sendsAll_141 : decode cX12_sendsAll 141 = .ok (.iaload, 1) := by decide +kernel
theorem dX12_sendsAll_142 : decode cX12_sendsAll 142 = .ok (.aload_n 0, 1) := by decide +kernel
theorem dX12_sendsAll_143 : decode cX12_sendsAll 143 = .ok (.getfield 151, 3) := by decide +kernel
theorem dX12_sendsAll_146 : decode cX12_sendsAll 146 = .ok (.sipush 960, 3) := by decide +kernel
theorem dX12_sendsAll_149 : decode cX12_sendsAll 149 = .ok (.iload_n 1, 1) := by decide +kernel
theorem dX12_sendsAll_150 : decode cX12_sendsAll 150 = .ok (.imul, 1) := by decide +kernel
theorem dX12_sendsAll_151 : decode cX12_sendsAll 151 = .ok (.iconst 1, 1) := by decide +kernel
theorem dX12_sendsAll_152 : decode cX12_sendsAll 152 = .ok (.iadd, 1) := by decide +kernel
theorem dX12_sendsAll_153 : decode cX12_sendsAll 153 = .ok (.iaload, 1) := by decide +kernel
theorem dX12_sendsAll_154 : decode cX12_sendsAll 154 = .ok (.invokevirtual 531, 3) := by decide +kernel
theorem dX12_sendsAll_157 : decode cX12_sendsAll 157 = .ok (.aload_n 0, 1) := by decide +kernel
theorem dX12_sendsAll_158 : decode cX12_sendsAll 158 = .ok (.iload_n 1, 1) := by decide +kernel
theorem dX12_sendsAll_159 : decode cX12_sendsAll 159 = .ok (.iconst 1, 1) := by decide +kernel
theorem dX12_sendsAll_160 : decode cX12_sendsAll 160 = .ok (.invokevirtual 522, 3) := by decide +kernel
theorem dX12_sendsAll_163 : decode cX12_sendsAll 163 = .ok (.goto (-159), 3) := by decide +kernel
theorem dX12_sendsAll_166 : decode cX12_sendsAll 166 = .ok (.iload 4, 2) := by decide +kernel
theorem dX12_sendsAll_168 : decode cX12_sendsAll 168 = .ok (.iload 5, 2) := by decide +kernel
theorem dX12_sendsAll_170 : decode cX12_sendsAll 170 = .ok (.isub, 1) := by decide +kernel
theorem dX12_sendsAll_171 : decode cX12_sendsAll 171 = .ok (.aload_n 0, 1) := by decide +kernel
theorem dX12_sendsAll_172 : decode cX12_sendsAll 172 = .ok (.getfield 57, 3) := by decide +kernel
theorem dX12_sendsAll_175 : decode cX12_sendsAll 175 = .ok (.aload_n 0, 1) := by decide +kernel
theorem dX12_sendsAll_176 : decode cX12_sendsAll 176 = .ok (.getfield 51, 3) := by decide +kernel
theorem dX12_sendsAll_179 : decode cX12_sendsAll 179 = .ok (.iaload, 1) := by decide +kernel
theorem dX12_sendsAll_180 : decode cX12_sendsAll 180 = .ok (.if_icmp .ge 11, 3) := by decide +kernel
theorem dX12_sendsAll_183 : decode cX12_sendsAll 183 = .ok (.iload 4, 2) := by decide +kernel
theorem dX12_sendsAll_185 : decode cX12_sendsAll 185 = .ok (.iload 5, 2) := by decide +kernel
theorem dX12_sendsAll_187 : decode cX12_sendsAll 187 = .ok (.isub, 1) := by decide +kernel
theorem dX12_sendsAll_188 : decode cX12_sendsAll 188 = .ok (.goto 12, 3) := by decide +kernel
theorem dX12_sendsAll_191 : decode cX12_sendsAll 191 = .ok (.aload_n 0, 1) := by decide +kernel
theorem dX12_sendsAll_192 : decode cX12_sendsAll 192 = .ok (.getfield 57, 3) := by decide +kernel
theorem dX12_sendsAll_195 : decode cX12_sendsAll 195 = .ok (.aload_n 0, 1) := by decide +kernel
theorem dX12_sendsAll_196 : decode cX12_sendsAll 196 = .ok (.getfield 51, 3) := by decide +kernel
theorem dX12_sendsAll_199 : decode cX12_sendsAll 199 = .ok (.iaload, 1) := by decide +kernel
theorem dX12_sendsAll_200 : decode cX12_sendsAll 200 = .ok (.istore 8, 2) := by decide +kernel
theorem dX12_sendsAll_202 : decode cX12_sendsAll 202 = .ok (.aload_n 0, 1) := by decide +kernel
theorem dX12_sendsAll_203 : decode cX12_sendsAll 203 = .ok (.iload_n 1, 1) := by decide +kernel
theorem dX12_sendsAll_204 : decode cX12_sendsAll 204 = .ok (.iload 7, 2) := by decide +kernel
theorem dX12_sendsAll_206 : decode cX12_sendsAll 206 = .ok (.iload 5, 2) := by decide +kernel
theorem dX12_sendsAll_208 : decode cX12_sendsAll 208 = .ok (.iload 8, 2) := by decide +kernel
theorem dX12_sendsAll_210 : decode cX12_sendsAll 210 = .ok (.invokevirtual 531, 3) := by decide +kernel
theorem dX12_sendsAll_213 : decode cX12_sendsAll 213 = .ok (.aload_n 0, 1) := by decide +kernel
theorem dX12_sendsAll_214 : decode cX12_sendsAll 214 = .ok (.iload_n 1, 1) := by decide +kernel
theorem dX12_sendsAll_215 : decode cX12_sendsAll 215 = .ok (.iconst 1, 1) := by decide +kernel
theorem dX12_sendsAll_216 : decode cX12_sendsAll 216 = .ok (.iload 5, 2) := by decide +kernel
theorem dX12_sendsAll_218 : decode cX12_sendsAll 218 = .ok (.iload 8, 2) := by decide +kernel
theorem dX12_sendsAll_220 : decode cX12_sendsAll 220 = .ok (.iadd, 1) := by decide +kernel
theorem dX12_sendsAll_221 : decode cX12_sendsAll 221 = .ok (.invokevirtual 405, 3) := by decide +kernel
theorem dX12_sendsAll_224 : decode cX12_sendsAll 224 = .ok (.goto (-220), 3) := by decide +kernel
theorem dX12_sendsAll_227 : decode cX12_sendsAll 227 = .ok (.return_, 1) := by decide +kernel
theorem dX12_clears_0 : decode cX12_clears 0 = .ok (.iconst 0, 1) := by decide +kernel
theorem dX12_clears_1 : decode cX12_clears 1 = .ok (.istore_n 2, 1) := by decide +kernel
theorem dX12_clears_2 : decode cX12_clears 2 = .ok (.iconst 0, 1) := by decide +kernel
theorem dX12_clears_3 : decode cX12_clears 3 = .ok (.istore_n 3, 1) := by decide +kernel
theorem dX12_clears_4 : decode cX12_clears 4 = .ok (.iload_n 3, 1) := by decide +kernel
theorem dX12_clears_5 : decode cX12_clears 5 = .ok (.aload_n 0, 1) := by decide +kernel
theorem dX12_clears_6 : decode cX12_clears 6 = .ok (.iload_n 1, 1) := by decide +kernel
theorem dX12_clears_7 : decode cX12_clears 7 = .ok (.bipush 6, 2) := by decide +kernel
theorem dX12_clears_9 : decode cX12_clears 9 = .ok (.invokevirtual 402, 3) := by decide +kernel
theorem dX12_clears_12 : decode cX12_clears 12 = .ok (.if_icmp .ge 69, 3) := by decide +kernel
theorem dX12_clears_15 : decode cX12_clears 15 = .ok (.aload_n 0, 1) := by decide +kernel
theorem dX12_clears_16 : decode cX12_clears 16 = .ok (.iload_n 1, 1) := by decide +kernel
theorem dX12_clears_17 : decode cX12_clears 17 = .ok (.iload_n 3, 1) := by decide +kernel
theorem dX12_clears_18 : decode cX12_clears 18 = .ok (.bipush 6, 2) := by decide +kernel
theorem dX12_clears_20 : decode cX12_clears 20 = .ok (.invokevirtual 445, 3) := by decide +kernel
theorem dX12_clears_23 : decode cX12_clears 23 = .ok (.ifCond .ne 17, 3) := by decide +kernel
theorem dX12_clears_26 : decode cX12_clears 26 = .ok (.aload_n 0, 1) := by decide +kernel
theorem dX12_clears_27 : decode cX12_clears 27 = .ok (.iload_n 1, 1) := by decide +kernel
theorem dX12_clears_28 : decode cX12_clears 28 = .ok (.iload_n 3, 1) := by decide +kernel
theorem dX12_clears_29 : decode cX12_clears 29 = .ok (.iconst 5, 1) := by decide +kernel
theorem dX12_clears_30 : decode cX12_clears 30 = .ok (.invokevirtual 445, 3) := by decide +kernel
theorem dX12_clears_33 : decode cX12_clears 33 = .ok (.iconst (-1), 1) := by decide +kernel
theorem dX12_clears_34 : decode cX12_clears 34 = .ok (.if_icmp .ne 6, 3) := by decide +kernel
theorem dX12_clears_37 : decode cX12_clears 37 = .ok (.goto 38, 3) := by decide +kernel
theorem dX12_clears_40 : decode cX12_clears 40 = .ok (.iconst 0, 1) := by decide +kernel
theorem dX12_clears_41 : decode cX12_clears 41 = .ok (.istore 4, 2) := by decide +kernel
theorem dX12_clears_43 : decode cX12_clears 43 = .ok (.iload 4, 2) := by decide +kernel
theorem dX12_clears_45 : decode cX12_clears 45 = .ok (.bipush 8, 2) := by decide +kernel
theorem dX12_clears_47 : decode cX12_clears 47 = .ok (.if_icmp .ge 25, 3) := by decide +kernel
theorem dX12_clears_50 : decode cX12_clears 50 = .ok (.aload_n 0, 1) := by decide +kernel
theorem dX12_clears_51 : decode cX12_clears 51 = .ok (.iload_n 1, 1) := by decide +kernel
theorem dX12_clears_52 : decode cX12_clears 52 = .ok (.iload_n 2, 1) := by decide +kernel
theorem dX12_clears_53 : decode cX12_clears 53 = .ok (.iload 4, 2) := by decide +kernel
theorem dX12_clears_55 : decode cX12_clears 55 = .ok (.aload_n 0, 1) := by decide +kernel
theorem dX12_clears_56 : decode cX12_clears 56 = .ok (.iload_n 1, 1) := by decide +kernel
theorem dX12_clears_57 : decode cX12_clears 57 = .ok (.iload_n 3, 1) := by decide +kernel
theorem dX12_clears_58 : decode cX12_clears 58 = .ok (.iload 4, 2) := by decide +kernel
theorem dX12_clears_60 : decode cX12_clears 60 = .ok (.invokevirtual 445, 3) := by decide +kernel
theorem dX12_clears_63 : decode cX12_clears 63 = .ok (.invokevirtual 482, 3) := by decide +kernel
theorem dX12_clears_66 : decode cX12_clears 66 = .ok (.iinc 4 1, 3) := by decide +kernel
theorem dX12_clears_69 : decode cX12_clears 69 = .ok (.goto (-26), 3) := by decide +kernel
theorem dX12_clears_72 : decode cX12_clears 72 = .ok (.iinc 2 1, 3) := by decide +kernel
theorem dX12_clears_75 : decode cX12_clears 75 = .ok (.iinc 3 1, 3) := by decide +kernel
theorem dX12_clears_78 : decode cX12_clears 78 = .ok (.goto (-74), 3) := by decide +kernel
theorem dX12_clears_81 : decode cX12_clears 81 = .ok (.aload_n 0, 1) := by decide +kernel
theorem dX12_clears_82 : decode cX12_clears 82 = .ok (.iload_n 1, 1) := by decide +kernel
theorem dX12_clears_83 : decode cX12_clears 83 = .ok (.bipush 6, 2) := by decide +kernel
theorem dX12_clears_85 : decode cX12_clears 85 = .ok (.iload_n 2, 1) := by decide +kernel
theorem dX12_clears_86 : decode cX12_clears 86 = .ok (.invokevirtual 405, 3) := by decide +kernel
theorem dX12_clears_89 : decode cX12_clears 89 = .ok (.return_, 1) := by decide +kernel
theorem dX12_ticksOn_0 : decode cX12_ticksOn 0 = .ok (.aload_n 0, 1) := by decide +kernel
theorem dX12_ticksOn_1 : decode cX12_ticksOn 1 = .ok (.iconst 0, 1) := by decide +kernel
theorem dX12_ticksOn_2 : decode cX12_ticksOn 2 = .ok (.putfield 200, 3) := by decide +kernel
theorem dX12_ticksOn_5 : decode cX12_ticksOn 5 = .ok (.aload_n 0, 1) := by decide +kernel
theorem dX12_ticksOn_6 : decode cX12_ticksOn 6 = .ok (.iconst 0, 1) := by decide +kernel
theorem dX12_ticksOn_7 : decode cX12_ticksOn 7 = .ok (.putfield 203, 3) := by decide +kernel
theorem dX12_ticksOn_10 : decode cX12_ticksOn 10 = .ok (.aload_n 0, 1) := by decide +kernel
theorem dX12_ticksOn_11 : decode cX12_ticksOn 11 = .ok (.iconst 0, 1) := by decide +kernel
theorem dX12_ticksOn_12 : decode cX12_ticksOn 12 = .ok (.putfield 206, 3) := by decide +kernel
theorem dX12_ticksOn_15 : decode cX12_ticksOn 15 = .ok (.iconst 0, 1) := by decide +kernel
theorem dX12_ticksOn_16 : decode cX12_ticksOn 16 = .ok (.istore_n 2, 1) := by decide +kernel
theorem dX12_ticksOn_17 : decode cX12_ticksOn 17 = .ok (.iload_n 2, 1) := by decide +kernel
theorem dX12_ticksOn_18 : decode cX12_ticksOn 18 = .ok (.aload_n 0, 1) := by decide +kernel
theorem dX12_ticksOn_19 : decode cX12_ticksOn 19 = .ok (.getfield 66, 3) := by decide +kernel
theorem dX12_ticksOn_22 : decode cX12_ticksOn 22 = .ok (.aload_n 0, 1) := by decide +kernel
theorem dX12_ticksOn_23 : decode cX12_ticksOn 23 = .ok (.getfield 51, 3) := by decide +kernel
theorem dX12_ticksOn_26 : decode cX12_ticksOn 26 = .ok (.iaload, 1) := by decide +kernel
theorem dX12_ticksOn_27 : decode cX12_ticksOn 27 = .ok (.if_icmp .ge 51, 3) := by decide +kernel
theorem dX12_ticksOn_30 : decode cX12_ticksOn 30 = .ok (.aload_n 0, 1) := by decide +kernel
theorem dX12_ticksOn_31 : decode cX12_ticksOn 31 = .ok (.getfield 72, 3) := by decide +kernel
theorem dX12_ticksOn_34 : decode cX12_ticksOn 34 = .ok (.iconst 4, 1) := by decide +kernel
theorem dX12_ticksOn_35 : decode cX12_ticksOn 35 = .ok (.aload_n 0, 1) := by decide +kernel
theorem dX12_ticksOn_36 : decode cX12_ticksOn 36 = .ok (.getfield 51, 3) := by decide +kernel
theorem dX12_ticksOn_39 : decode cX12_ticksOn 39 = .ok (.imul, 1) := by decide +kernel
theorem dX12_ticksOn_40 : decode cX12_ticksOn 40 = .ok (.iload_n 2, 1) := by decide +kernel
theorem dX12_ticksOn_41 : decode cX12_ticksOn 41 = .ok (.iadd, 1) := by decide +kernel
theorem dX12_ticksOn_42 : decode cX12_ticksOn 42 = .ok (.iaload, 1) := by decide +kernel
theorem dX12_ticksOn_43 : decode cX12_ticksOn 43 = .ok (.aload_n 0, 1) := by decide +kernel
theorem dX12_ticksOn_44 : decode cX12_ticksOn 44 = .ok (.iload_n 1, 1) := by decide +kernel
theorem dX12_ticksOn_45 : decode cX12_ticksOn 45 = .ok (.iconst 0, 1) := by decide +kernel
theorem dX12_ticksOn_46 : decode cX12_ticksOn 46 = .ok (.invokevirtual 402, 3) := by decide +kernel
theorem dX12_ticksOn_49 : decode cX12_ticksOn 49 = .ok (.if_icmp .ne 23, 3) := by decide +kernel
theorem dX12_ticksOn_52 : decode cX12_ticksOn 52 = .ok (.aload_n 0, 1) := by decide +kernel
theorem dX12_ticksOn_53 : decode cX12_ticksOn 53 = .ok (.iload_n 1, 1) := by decide +kernel
theorem dX12_ticksOn_54 : decode cX12_ticksOn 54 = .ok (.iload_n 2, 1) := by decide +kernel
theorem dX12_ticksOn_55 : decode cX12_ticksOn 55 = .ok (.aload_n 0, 1) := by decide +kernel
theorem dX12_ticksOn_56 : decode cX12_ticksOn 56 = .ok (.getfield 75, 3) := by decide +kernel
theorem dX12_ticksOn_59 : decode cX12_ticksOn 59 = .ok (.iconst 4, 1) := by decide +kernel
theorem dX12_ticksOn_60 : decode cX12_ticksOn 60 = .ok (.aload_n 0, 1) := by decide +kernel
theorem dX12_ticksOn_61 : decode cX12_ticksOn 61 = .ok (.getfield 51, 3) := by decide +kernel
theorem dX12_ticksOn_64 : decode cX12_ticksOn 64 = .ok (.imul, 1) := by decide +kernel
theorem dX12_ticksOn_65 : decode cX12_ticksOn 65 = .ok (.iload_n 2, 1) := by decide +kernel
theorem dX12_ticksOn_66 : decode cX12_ticksOn 66 = .ok (.iadd, 1) := by decide +kernel
theorem dX12_ticksOn_67 : decode cX12_ticksOn 67 = .ok (.iaload, 1) := by decide +kernel
theorem dX12_ticksOn_68 : decode cX12_ticksOn 68 = .ok (.invokevirtual 540, 3) := by decide +kernel
theorem dX12_ticksOn_71 : decode cX12_ticksOn 71 = .ok (.pop, 1) := by decide +kernel
theorem dX12_ticksOn_72 : decode cX12_ticksOn 72 = .ok (.iinc 2 1, 3) := by decide +kernel
theorem dX12_ticksOn_75 : decode cX12_ticksOn 75 = .ok (.goto (-58), 3) := by decide +kernel
theorem dX12_ticksOn_78 : decode cX12_ticksOn 78 = .ok (.aload_n 0, 1) := by decide +kernel
theorem dX12_ticksOn_79 : decode cX12_ticksOn 79 = .ok (.iload_n 1, 1) := by decide +kernel
theorem dX12_ticksOn_80 : decode cX12_ticksOn 80 = .ok (.invokevirtual 543, 3) := by decide +kernel
theorem dX12_ticksOn_83 : decode cX12_ticksOn 83 = .ok (.aload_n 0, 1) := by decide +kernel
theorem dX12_ticksOn_84 : decode cX12_ticksOn 84 = .ok (.iload_n 1, 1) := by decide +kernel
theorem dX12_ticksOn_85 : decode cX12_ticksOn 85 = .ok (.invokevirtual 546, 3) := by decide +kernel
theorem dX12_ticksOn_88 : decode cX12_ticksOn 88 = .ok (.aload_n 0, 1) := by decide +kernel
theorem dX12_ticksOn_89 : decode cX12_ticksOn 89 = .ok (.iload_n 1, 1) := by decide +kernel
theorem dX12_ticksOn_90 : decode cX12_ticksOn 90 = .ok (.aload_n 0, 1) := by decide +kernel
theorem dX12_ticksOn_91 : decode cX12_ticksOn 91 = .ok (.iload_n 1, 1) := by decide +kernel
theorem dX12_ticksOn_92 : decode cX12_ticksOn 92 = .ok (.invokevirtual 549, 3) := by decide +kernel
theorem dX12_ticksOn_95 : decode cX12_ticksOn 95 = .ok (.invokevirtual 552, 3) := by decide +kernel
theorem dX12_ticksOn_98 : decode cX12_ticksOn 98 = .ok (.iconst 0, 1) := by decide +kernel
theorem dX12_ticksOn_99 : decode cX12_ticksOn 99 = .ok (.istore_n 2, 1) := by decide +kernel
theorem dX12_ticksOn_100 : decode cX12_ticksOn 100 = .ok (.iload_n 2, 1) := by decide +kernel
theorem dX12_ticksOn_101 : decode cX12_ticksOn 101 = .ok (.aload_n 0, 1) := by decide +kernel
theorem dX12_ticksOn_102 : decode cX12_ticksOn 102 = .ok (.getfield 194, 3) := by decide +kernel
theorem dX12_ticksOn_105 : decode cX12_ticksOn 105 = .ok (.if_icmp .ge 20, 3) := by decide +kernel
theorem dX12_ticksOn_108 : decode cX12_ticksOn 108 = .ok (.aload_n 0, 1) := by decide +kernel
theorem dX12_ticksOn_109 : decode cX12_ticksOn 109 = .ok (.iload_n 1, 1) := by decide +kernel
theorem dX12_ticksOn_110 : decode cX12_ticksOn 110 = .ok (.aload_n 0, 1) := by decide +kernel
theorem dX12_ticksOn_111 : decode cX12_ticksOn 111 = .ok (.getfield 191, 3) := by decide +kernel
theorem dX12_ticksOn_114 : decode cX12_ticksOn 114 = .ok (.iload_n 2, 1) := by decide +kernel
theorem dX12_ticksOn_115 : decode cX12_ticksOn 115 = .ok (.iaload, 1) := by decide +kernel
theorem dX12_ticksOn_116 : decode cX12_ticksOn 116 = .ok (.invokevirtual 516, 3) := by decide +kernel
theorem dX12_ticksOn_119 : decode cX12_ticksOn 119 = .ok (.iinc 2 1, 3) := by decide +kernel
theorem dX12_ticksOn_122 : decode cX12_ticksOn 122 = .ok (.goto (-22), 3) := by decide +kernel
theorem dX12_ticksOn_125 : decode cX12_ticksOn 125 = .ok (.iconst 0, 1) := by decide +kernel
theorem dX12_ticksOn_126 : decode cX12_ticksOn 126 = .ok (.istore_n 2, 1) := by decide +kernel
theorem dX12_ticksOn_127 : decode cX12_ticksOn 127 = .ok (.iload_n 2, 1) := by decide +kernel
theorem dX12_ticksOn_128 : decode cX12_ticksOn 128 = .ok (.aload_n 0, 1) := by decide +kernel
theorem dX12_ticksOn_129 : decode cX12_ticksOn 129 = .ok (.getfield 66, 3) := by decide +kernel
theorem dX12_ticksOn_132 : decode cX12_ticksOn 132 = .ok (.aload_n 0, 1) := by decide +kernel
theorem dX12_ticksOn_133 : decode cX12_ticksOn 133 = .ok (.getfield 51, 3) := by decide +kernel
theorem dX12_ticksOn_136 : decode cX12_ticksOn 136 = .ok (.iaload, 1) := by decide +kernel
theorem dX12_ticksOn_137 : decode cX12_ticksOn 137 = .ok (.if_icmp .ge 24, 3) := by decide +kernel
theorem dX12_ticksOn_140 : decode cX12_ticksOn 140 = .ok (.aload_n 0, 1) := by decide +kernel
theorem dX12_ticksOn_141 : decode cX12_ticksOn 141 = .ok (.iload_n 1, 1) := by decide +kernel
theorem dX12_ticksOn_142 : decode cX12_ticksOn 142 = .ok (.iload_n 2, 1) := by decide +kernel
theorem dX12_ticksOn_143 : decode cX12_ticksOn 143 = .ok (.invokevirtual 470, 3) := by decide +kernel
theorem dX12_ticksOn_146 : decode cX12_ticksOn 146 = .ok (.ifCond .eq 9, 3) := by decide +kernel
theorem dX12_ticksOn_149 : decode cX12_ticksOn 149 = .ok (.aload_n 0, 1) := by decide +kernel
theorem dX12_ticksOn_150 : decode cX12_ticksOn 150 = .ok (.iload_n 1, 1) := by decide +kernel
theorem dX12_ticksOn_151 : decode cX12_ticksOn 151 = .ok (.iload_n 2, 1) := by decide +kernel
theorem dX12_ticksOn_152 : decode cX12_ticksOn 152 = .ok (.invokevirtual 555, 3) := by decide +kernel
theorem dX12_ticksOn_155 : decode cX12_ticksOn 155 = .ok (.iinc 2 1, 3) := by decide +kernel
theorem dX12_ticksOn_158 : decode cX12_ticksOn 158 = .ok (.goto (-31), 3) := by decide +kernel
theorem dX12_ticksOn_161 : decode cX12_ticksOn 161 = .ok (.aload_n 0, 1) := by decide +kernel
theorem dX12_ticksOn_162 : decode cX12_ticksOn 162 = .ok (.iload_n 1, 1) := by decide +kernel
theorem dX12_ticksOn_163 : decode cX12_ticksOn 163 = .ok (.invokevirtual 558, 3) := by decide +kernel
theorem dX12_ticksOn_166 : decode cX12_ticksOn 166 = .ok (.aload_n 0, 1) := by decide +kernel
theorem dX12_ticksOn_167 : decode cX12_ticksOn 167 = .ok (.iload_n 1, 1) := by decide +kernel
theorem dX12_ticksOn_168 : decode cX12_ticksOn 168 = .ok (.invokevirtual 561, 3) := by decide +kernel
theorem dX12_ticksOn_171 : decode cX12_ticksOn 171 = .ok (.aload_n 0, 1) := by decide +kernel
theorem dX12_ticksOn_172 : decode cX12_ticksOn 172 = .ok (.iload_n 1, 1) := by decide +kernel
theorem dX12_ticksOn_173 : decode cX12_ticksOn 173 = .ok (.iconst 0, 1) := by decide +kernel
theorem dX12_ticksOn_174 : decode cX12_ticksOn 174 = .ok (.aload_n 0, 1) := by decide +kernel
theorem dX12_ticksOn_175 : decode cX12_ticksOn 175 = .ok (.iload_n 1, 1) := by decide +kernel
theorem dX12_ticksOn_176 : decode cX12_ticksOn 176 = .ok (.iconst 0, 1) := by decide +kernel
theorem dX12_ticksOn_177 : decode cX12_ticksOn 177 = .ok (.invokevirtual 402, 3) := by decide +kernel
theorem dX12_ticksOn_180 : decode cX12_ticksOn 180 = .ok (.iconst 1, 1) := by decide +kernel
theorem dX12_ticksOn_181 : decode cX12_ticksOn 181 = .ok (.iadd, 1) := by decide +kernel
theorem dX12_ticksOn_182 : decode cX12_ticksOn 182 = .ok (.invokevirtual 405, 3) := by decide +kernel
theorem dX12_ticksOn_185 : decode cX12_ticksOn 185 = .ok (.return_, 1) := by decide +kernel
theorem dX12_isPath_0 : decode cX12_isPath 0 = .ok (.iload_n 1, 1) := by decide +kernel
theorem dX12_isPath_1 : decode cX12_isPath 1 = .ok (.ifCond .lt 20, 3) := by decide +kernel
theorem dX12_isPath_4 : decode cX12_isPath 4 = .ok (.iload_n 1, 1) := by decide +kernel
theorem dX12_isPath_5 : decode cX12_isPath 5 = .ok (.aload_n 0, 1) := by decide +kernel
theorem dX12_isPath_6 : decode cX12_isPath 6 = .ok (.getfield 66, 3) := by decide +kernel
theorem dX12_isPath_9 : decode cX12_isPath 9 = .ok (.aload_n 0, 1) := by decide +kernel
theorem dX12_isPath_10 : decode cX12_isPath 10 = .ok (.getfield 51, 3) := by decide +kernel
theorem dX12_isPath_13 : decode cX12_isPath 13 = .ok (.iaload, 1) := by decide +kernel
theorem dX12_isPath_14 : decode cX12_isPath 14 = .ok (.if_icmp .ge 7, 3) := by decide +kernel
theorem dX12_isPath_17 : decode cX12_isPath 17 = .ok (.iconst 1, 1) := by decide +kernel
theorem dX12_isPath_18 : decode cX12_isPath 18 = .ok (.goto 4, 3) := by decide +kernel
theorem dX12_isPath_21 : decode cX12_isPath 21 = .ok (.iconst 0, 1) := by decide +kernel
theorem dX12_isPath_22 : decode cX12_isPath 22 = .ok (.ireturn, 1) := by decide +kernel
theorem dX12_flying_0 : decode cX12_flying 0 = .ok (.iconst 0, 1) := by decide +kernel
theorem dX12_flying_1 : decode cX12_flying 1 = .ok (.istore_n 2, 1) := by decide +kernel
theorem dX12_flying_2 : decode cX12_flying 2 = .ok (.iconst 0, 1) := by decide +kernel
theorem dX12_flying_3 : decode cX12_flying 3 = .ok (.istore_n 3, 1) := by decide +kernel
theorem dX12_flying_4 : decode cX12_flying 4 = .ok (.iload_n 3, 1) := by decide +kernel
theorem dX12_flying_5 : decode cX12_flying 5 = .ok (.aload_n 0, 1) := by decide +kernel
theorem dX12_flying_6 : decode cX12_flying 6 = .ok (.iload_n 1, 1) := by decide +kernel
theorem dX12_flying_7 : decode cX12_flying 7 = .ok (.bipush 6, 2) := by decide +kernel
theorem dX12_flying_9 : decode cX12_flying 9 = .ok (.invokevirtual 402, 3) := by decide +kernel
theorem dX12_flying_12 : decode cX12_flying 12 = .ok (.if_icmp .ge 20, 3) := by decide +kernel
theorem dX12_flying_15 : decode cX12_flying 15 = .ok (.iload_n 2, 1) := by decide +kernel
theorem dX12_flying_16 : decode cX12_flying 16 = .ok (.aload_n 0, 1) := by decide +kernel
theorem dX12_flying_17 : decode cX12_flying 17 = .ok (.iload_n 1, 1) := by decide +kernel
theorem dX12_flying_18 : decode cX12_flying 18 = .ok (.iload_n 3, 1) := by decide +kernel
theorem dX12_flying_19 : decode cX12_flying 19 = .ok (.bipush 6, 2) := by decide +kernel
theorem dX12_flying_21 : decode cX12_flying 21 = .ok (.invokevirtual 445, 3) := by decide +kernel
theorem dX12_flying_24 : decode cX12_flying 24 = .ok (.iadd, 1) := by decide +kernel
theorem dX12_flying_25 : decode cX12_flying 25 = .ok (.istore_n 2, 1) := by decide +kernel
theorem dX12_flying_26 : decode cX12_flying 26 = .ok (.iinc 3 1, 3) := by decide +kernel
theorem dX12_flying_29 : decode cX12_flying 29 = .ok (.goto (-25), 3) := by decide +kernel
theorem dX12_flying_32 : decode cX12_flying 32 = .ok (.iload_n 2, 1) := by decide +kernel
theorem dX12_flying_33 : decode cX12_flying 33 = .ok (.ireturn, 1) := by decide +kernel
theorem dX12_open_0 : decode cX12_open 0 = .ok (.iconst 0, 1) := by decide +kernel
theorem dX12_open_1 : decode cX12_open 1 = .ok (.istore_n 1, 1) := by decide +kernel
theorem dX12_open_2 : decode cX12_open 2 = .ok (.iconst 0, 1) := by decide +kernel
theorem dX12_open_3 : decode cX12_open 3 = .ok (.istore_n 2, 1) := by decide +kernel
theorem dX12_open_4 : decode cX12_open 4 = .ok (.iload_n 2, 1) := by decide +kernel
theorem dX12_open_5 : decode cX12_open 5 = .ok (.aload_n 0, 1) := by decide +kernel
theorem dX12_open_6 : decode cX12_open 6 = .ok (.getfield 66, 3) := by decide +kernel
theorem dX12_open_9 : decode cX12_open 9 = .ok (.aload_n 0, 1) := by decide +kernel
theorem dX12_open_10 : decode cX12_open 10 = .ok (.getfield 51, 3) := by decide +kernel
theorem dX12_open_13 : decode cX12_open 13 = .ok (.iaload, 1) := by decide +kernel
theorem dX12_open_14 : decode cX12_open 14 = .ok (.if_icmp .ge 26, 3) := by decide +kernel
theorem dX12_open_17 : decode cX12_open 17 = .ok (.iload_n 1, 1) := by decide +kernel
theorem dX12_open_18 : decode cX12_open 18 = .ok (.aload_n 0, 1) := by decide +kernel
theorem dX12_open_19 : decode cX12_open 19 = .ok (.iconst 0, 1) := by decide +kernel
theorem dX12_open_20 : decode cX12_open 20 = .ok (.iload_n 2, 1) := by decide +kernel
theorem dX12_open_21 : decode cX12_open 21 = .ok (.invokevirtual 470, 3) := by decide +kernel
theorem dX12_open_24 : decode cX12_open 24 = .ok (.ifCond .eq 7, 3) := by decide +kernel
theorem dX12_open_27 : decode cX12_open 27 = .ok (.iconst 1, 1) := by decide +kernel
theorem dX12_open_28 : decode cX12_open 28 = .ok (.goto 4, 3) := by decide +kernel
theorem dX12_open_31 : decode cX12_open 31 = .ok (.iconst 0, 1) := by decide +kernel
theorem dX12_open_32 : decode cX12_open 32 = .ok (.iadd, 1) := by decide +kernel
theorem dX12_open_33 : decode cX12_open 33 = .ok (.istore_n 1, 1) := by decide +kernel
theorem dX12_open_34 : decode cX12_open 34 = .ok (.iinc 2 1, 3) := by decide +kernel
theorem dX12_open_37 : decode cX12_open 37 = .ok (.goto (-33), 3) := by decide +kernel
theorem dX12_open_40 : decode cX12_open 40 = .ok (.iload_n 1, 1) := by decide +kernel
theorem dX12_open_41 : decode cX12_open 41 = .ok (.ireturn, 1) := by decide +kernel
theorem dX12_needed_0 : decode cX12_needed 0 = .ok (.iconst 0, 1) := by decide +kernel
theorem dX12_needed_1 : decode cX12_needed 1 = .ok (.istore_n 2, 1) := by decide +kernel
theorem dX12_needed_2 : decode cX12_needed 2 = .ok (.iconst 0, 1) := by decide +kernel
theorem dX12_needed_3 : decode cX12_needed 3 = .ok (.istore_n 3, 1) := by decide +kernel
theorem dX12_needed_4 : decode cX12_needed 4 = .ok (.iload_n 3, 1) := by decide +kernel
theorem dX12_needed_5 : decode cX12_needed 5 = .ok (.aload_n 0, 1) := by decide +kernel
theorem dX12_needed_6 : decode cX12_needed 6 = .ok (.iload_n 1, 1) := by decide +kernel
theorem dX12_needed_7 : decode cX12_needed 7 = .ok (.bipush 7, 2) := by decide +kernel
theorem dX12_needed_9 : decode cX12_needed 9 = .ok (.invokevirtual 402, 3) := by decide +kernel
theorem dX12_needed_12 : decode cX12_needed 12 = .ok (.if_icmp .ge 57, 3) := by decide +kernel
theorem dX12_needed_15 : decode cX12_needed 15 = .ok (.iload_n 2, 1) := by decide +kernel
theorem dX12_needed_16 : decode cX12_needed 16 = .ok (.aload_n 0, 1) := by decide +kernel
theorem dX12_needed_17 : decode cX12_needed 17 = .ok (.getfield 151, 3) := by decide +kernel
theorem dX12_needed_20 : decode cX12_needed 20 = .ok (.iconst 2, 1) := by decide +kernel
theorem dX12_needed_21 : decode cX12_needed 21 = .ok (.sipush 480, 3) := by decide +kernel
theorem dX12_needed_24 : decode cX12_needed 24 = .ok (.iload_n 1, 1) := by decide +kernel
theorem dX12_needed_25 : decode cX12_needed 25 = .ok (.imul, 1) := by decide +kernel
theorem dX12_needed_26 : decode cX12_needed 26 = .ok (.iload_n 3, 1) := by decide +kernel
theorem dX12_needed_27 : decode cX12_needed 27 = .ok (.iadd, 1) := by decide +kernel
theorem dX12_needed_28 : decode cX12_needed 28 = .ok (.imul, 1) := by decide +kernel
theorem dX12_needed_29 : decode cX12_needed 29 = .ok (.iaload, 1) := by decide +kernel
theorem dX12_needed_30 : decode cX12_needed 30 = .ok (.aload_n 0, 1) := by decide +kernel
theorem dX12_needed_31 : decode cX12_needed 31 = .ok (.getfield 151, 3) := by decide +kernel
theorem dX12_needed_34 : decode cX12_needed 34 = .ok (.iconst 2, 1) := by decide +kernel
theorem dX12_needed_35 : decode cX12_needed 35 = .ok (.sipush 480, 3) := by decide +kernel
theorem dX12_needed_38 : decode cX12_needed 38 = .ok (.iload_n 1, 1) := by decide +kernel
theorem dX12_needed_39 : decode cX12_needed 39 = .ok (.imul, 1) := by decide +kernel
theorem dX12_needed_40 : decode cX12_needed 40 = .ok (.iload_n 3, 1) := by decide +kernel
theorem dX12_needed_41 : decode cX12_needed 41 = .ok (.iadd, 1) := by decide +kernel
theorem dX12_needed_42 : decode cX12_needed 42 = .ok (.imul, 1) := by decide +kernel
theorem dX12_needed_43 : decode cX12_needed 43 = .ok (.iconst 1, 1) := by decide +kernel
theorem dX12_needed_44 : decode cX12_needed 44 = .ok (.iadd, 1) := by decide +kernel
theorem dX12_needed_45 : decode cX12_needed 45 = .ok (.iaload, 1) := by decide +kernel
theorem dX12_needed_46 : decode cX12_needed 46 = .ok (.iadd, 1) := by decide +kernel
theorem dX12_needed_47 : decode cX12_needed 47 = .ok (.aload_n 0, 1) := by decide +kernel
theorem dX12_needed_48 : decode cX12_needed 48 = .ok (.iload_n 1, 1) := by decide +kernel
theorem dX12_needed_49 : decode cX12_needed 49 = .ok (.iconst 2, 1) := by decide +kernel
theorem dX12_needed_50 : decode cX12_needed 50 = .ok (.invokevirtual 402, 3) := by decide +kernel
theorem dX12_needed_53 : decode cX12_needed 53 = .ok (.if_icmp .le 7, 3) := by decide +kernel
theorem dX12_needed_56 : decode cX12_needed 56 = .ok (.iconst 1, 1) := by decide +kernel
theorem dX12_needed_57 : decode cX12_needed 57 = .ok (.goto 4, 3) := by decide +kernel
theorem dX12_needed_60 : decode cX12_needed 60 = .ok (.iconst 0, 1) := by decide +kernel
theorem dX12_needed_61 : decode cX12_needed 61 = .ok (.iadd, 1) := by decide +kernel
theorem dX12_needed_62 : decode cX12_needed 62 = .ok (.istore_n 2, 1) := by decide +kernel
theorem dX12_needed_63 : decode cX12_needed 63 = .ok (.iinc 3 1, 3) := by decide +kernel
theorem dX12_needed_66 : decode cX12_needed 66 = .ok (.goto (-62), 3) := by decide +kernel
theorem dX12_needed_69 : decode cX12_needed 69 = .ok (.iload_n 2, 1) := by decide +kernel
theorem dX12_needed_70 : decode cX12_needed 70 = .ok (.ireturn, 1) := by decide +kernel
theorem dX12_has_0 : decode cX12_has 0 = .ok (.iload_n 1, 1) := by decide +kernel
theorem dX12_has_1 : decode cX12_has 1 = .ok (.tableswitch 200 0 16 #[83, 93, 103, 108, 115, 122, 129, 136, 142, 149, 155, 163, 169, 176, 184, 189, 194], 83) := by decide +kernel
theorem dX12_has_84 : decode cX12_has 84 = .ok (.aload_n 0, 1) := by decide +kernel
theorem dX12_has_85 : decode cX12_has 85 = .ok (.getfield 54, 3) := by decide +kernel
theorem dX12_has_88 : decode cX12_has 88 = .ok (.aload_n 0, 1) := by decide +kernel
theorem dX12_has_89 : decode cX12_has 89 = .ok (.getfield 51, 3) := by decide +kernel
theorem dX12_has_92 : decode cX12_has 92 = .ok (.iaload, 1) := by decide +kernel
theorem dX12_has_93 : decode cX12_has 93 = .ok (.ireturn, 1) := by decide +kernel
theorem dX12_has_94 : decode cX12_has 94 = .ok (.aload_n 0, 1) := by decide +kernel
theorem dX12_has_95 : decode cX12_has 95 = .ok (.getfield 66, 3) := by decide +kernel
theorem dX12_has_98 : decode cX12_has 98 = .ok (.aload_n 0, 1) := by decide +kernel
theorem dX12_has_99 : decode cX12_has 99 = .ok (.getfield 51, 3) := by decide +kernel
theorem dX12_has_102 : decode cX12_has 102 = .ok (.iaload, 1) := by decide +kernel
theorem dX12_has_103 : decode cX12_has 103 = .ok (.ireturn, 1) := by decide +kernel
theorem dX12_has_104 : decode cX12_has 104 = .ok (.aload_n 0, 1) := by decide +kernel
theorem dX12_has_105 : decode cX12_has 105 = .ok (.invokevirtual 564, 3) := by decide +kernel
theorem dX12_has_108 : decode cX12_has 108 = .ok (.ireturn, 1) := by decide +kernel
theorem dX12_has_109 : decode cX12_has 109 = .ok (.aload_n 0, 1) := by decide +kernel
theorem dX12_has_110 : decode cX12_has 110 = .ok (.iconst 0, 1) := by decide +kernel
theorem dX12_has_111 : decode cX12_has 111 = .ok (.iconst 0, 1) := by decide +kernel
theorem dX12_has_112 : decode cX12_has 112 = .ok (.invokevirtual 402, 3) := by decide +kernel
theorem dX12_has_115 : decode cX12_has 115 = .ok (.ireturn, 1) := by decide +kernel
theorem dX12_has_116 : decode cX12_has 116 = .ok (.aload_n 0, 1) := by decide +kernel
theorem dX12_has_117 : decode cX12_has 117 = .ok (.iconst 0, 1) := by decide +kernel
theorem dX12_has_118 : decode cX12_has 118 = .ok (.iconst 1, 1) := by decide +kernel
theorem dX12_has_119 : decode cX12_has 119 = .ok (.invokevirtual 402, 3) := by decide +kernel
theorem dX12_has_122 : decode cX12_has 122 = .ok (.ireturn, 1) := by decide +kernel
theorem dX12_has_123 : decode cX12_has 123 = .ok (.aload_n 0, 1) := by decide +kernel
theorem dX12_has_124 : decode cX12_has 124 = .ok (.iconst 0, 1) := by decide +kernel
theorem dX12_has_125 : decode cX12_has 125 = .ok (.iconst 2, 1) := by decide +kernel
theorem dX12_has_126 : decode cX12_has 126 = .ok (.invokevirtual 402, 3) := by decide +kernel
theorem dX12_has_129 : decode cX12_has 129 = .ok (.ireturn, 1) := by decide +kernel
theorem dX12_has_130 : decode cX12_has 130 = .ok (.aload_n 0, 1) := by decide +kernel
theorem dX12_has_131 : decode cX12_has 131 = .ok (.iconst 0, 1) := by decide +kernel
theorem dX12_has_132 : decode cX12_has 132 = .ok (.iconst 3, 1) := by decide +kernel
theorem dX12_has_133 : decode cX12_has 133 = .ok (.invokevirtual 402, 3) := by decide +kernel
theorem dX12_has_136 : decode cX12_has 136 = .ok (.ireturn, 1) := by decide +kernel
theorem dX12_has_137 : decode cX12_has 137 = .ok (.aload_n 0, 1) := by decide +kernel
theorem dX12_has_138 : decode cX12_has 138 = .ok (.iconst 0, 1) := by decide +kernel
theorem dX12_has_139 : decode cX12_has 139 = .ok (.invokevirtual 495, 3) := by decide +kernel
theorem dX12_has_142 : decode cX12_has 142 = .ok (.ireturn, 1) := by decide +kernel
theorem dX12_has_143 : decode cX12_has 143 = .ok (.aload_n 0, 1) := by decide +kernel
theorem dX12_has_144 : decode cX12_has 144 = .ok (.iconst 0, 1) := by decide +kernel
theorem dX12_has_145 : decode cX12_has 145 = .ok (.iconst 4, 1) := by decide +kernel
theorem dX12_has_146 : decode cX12_has 146 = .ok (.invokevirtual 402, 3) := by decide +kernel
theorem dX12_has_149 : decode cX12_has 149 = .ok (.ireturn, 1) := by decide +kernel
theorem dX12_has_150 : decode cX12_has 150 = .ok (.aload_n 0, 1) := by decide +kernel
theorem dX12_has_151 : decode cX12_has 151 = .ok (.iconst 0, 1) := by decide +kernel
theorem dX12_has_152 : decode cX12_has 152 = .ok (.invokevirtual 567, 3) := by decide +kernel
theorem dX12_has_155 : decode cX12_has 155 = .ok (.ireturn, 1) := by decide +kernel
theorem dX12_has_156 : decode cX12_has 156 = .ok (.aload_n 0, 1) := by decide +kernel
theorem dX12_has_157 : decode cX12_has 157 = .ok (.iconst 0, 1) := by decide +kernel
theorem dX12_has_158 : decode cX12_has 158 = .ok (.bipush 8, 2) := by decide +kernel
theorem dX12_has_160 : decode cX12_has 160 = .ok (.invokevirtual 402, 3) := by decide +kernel
theorem dX12_has_163 : decode cX12_has 163 = .ok (.ireturn, 1) := by decide +kernel
theorem dX12_has_164 : decode cX12_has 164 = .ok (.aload_n 0, 1) := by decide +kernel
theorem dX12_has_165 : decode cX12_has 165 = .ok (.iconst 0, 1) := by decide +kernel
theorem dX12_has_166 : decode cX12_has 166 = .ok (.invokevirtual 570, 3) := by decide +kernel
theorem dX12_has_169 : decode cX12_has 169 = .ok (.ireturn, 1) := by decide +kernel
theorem dX12_has_170 : decode cX12_has 170 = .ok (.aload_n 0, 1) := by decide +kernel
theorem dX12_has_171 : decode cX12_has 171 = .ok (.iconst 0, 1) := by decide +kernel
theorem dX12_has_172 : decode cX12_has 172 = .ok (.iconst 5, 1) := by decide +kernel
theorem dX12_has_173 : decode cX12_has 173 = .ok (.invokevirtual 402, 3) := by decide +kernel
theorem dX12_has_176 : decode cX12_has 176 = .ok (.ireturn, 1) := by decide +kernel
theorem dX12_has_177 : decode cX12_has 177 = .ok (.aload_n 0, 1) := by decide +kernel
theorem dX12_has_178 : decode cX12_has 178 = .ok (.iconst 0, 1) := by decide +kernel
theorem dX12_has_179 : decode cX12_has 179 = .ok (.bipush 9, 2) := by decide +kernel
theorem dX12_has_181 : decode cX12_has 181 = .ok (.invokevirtual 402, 3) := by decide +kernel
theorem dX12_has_184 : decode cX12_has 184 = .ok (.ireturn, 1) := by decide +kernel
theorem dX12_has_185 : decode cX12_has 185 = .ok (.aload_n 0, 1) := by decide +kernel
theorem dX12_has_186 : decode cX12_has 186 = .ok (.getfield 209, 3) := by decide +kernel
theorem dX12_has_189 : decode cX12_has 189 = .ok (.ireturn, 1) := by decide +kernel
theorem dX12_has_190 : decode cX12_has 190 = .ok (.aload_n 0, 1) := by decide +kernel
theorem dX12_has_191 : decode cX12_has 191 = .ok (.getfield 167, 3) := by decide +kernel
theorem dX12_has_194 : decode cX12_has 194 = .ok (.ireturn, 1) := by decide +kernel
theorem dX12_has_195 : decode cX12_has 195 = .ok (.aload_n 0, 1) := by decide +kernel
theorem dX12_has_196 : decode cX12_has 196 = .ok (.getfield 170, 3) := by decide +kernel
theorem dX12_has_199 : decode cX12_has 199 = .ok (.l2i, 1) := by decide +kernel
theorem dX12_has_200 : decode cX12_has 200 = .ok (.ireturn, 1) := by decide +kernel
theorem dX12_has_201 : decode cX12_has 201 = .ok (.iconst (-1), 1) := by decide +kernel
theorem dX12_has_202 : decode cX12_has 202 = .ok (.ireturn, 1) := by decide +kernel
theorem dX12_letter_0 : decode cX12_letter 0 = .ok (.aload_n 0, 1) := by decide +kernel
theorem dX12_letter_1 : decode cX12_letter 1 = .ok (.iload_n 1, 1) := by decide +kernel
theorem dX12_letter_2 : decode cX12_letter 2 = .ok (.invokevirtual 573, 3) := by decide +kernel
theorem dX12_letter_5 : decode cX12_letter 5 = .ok (.ifCond .eq 12, 3) := by decide +kernel
theorem dX12_letter_8 : decode cX12_letter 8 = .ok (.iload_n 2, 1) := by decide +kernel
theorem dX12_letter_9 : decode cX12_letter 9 = .ok (.iconst 0, 1) := by decide +kernel
theorem dX12_letter_10 : decode cX12_letter 10 = .ok (.iconst 5, 1) := by decide +kernel
theorem dX12_letter_11 : decode cX12_letter 11 = .ok (.invokestatic 310, 3) := by decide +kernel
theorem dX12_letter_14 : decode cX12_letter 14 = .ok (.ifCond .ne 5, 3) := by decide +kernel
theorem dX12_letter_17 : decode cX12_letter 17 = .ok (.iconst (-1), 1) := by decide +kernel
theorem dX12_letter_18 : decode cX12_letter 18 = .ok (.ireturn, 1) := by decide +kernel
theorem dX12_letter_19 : decode cX12_letter 19 = .ok (.aload_n 0, 1) := by decide +kernel
theorem dX12_letter_20 : decode cX12_letter 20 = .ok (.getfield 93, 3) := by decide +kernel
theorem dX12_letter_23 : decode cX12_letter 23 = .ok (.iconst 4, 1) := by decide +kernel
theorem dX12_letter_24 : decode cX12_letter 24 = .ok (.aload_n 0, 1) := by decide +kernel
theorem dX12_letter_25 : decode cX12_letter 25 = .ok (.getfield 51, 3) := by decide +kernel
theorem dX12_letter_28 : decode cX12_letter 28 = .ok (.imul, 1) := by decide +kernel
theorem dX12_letter_29 : decode cX12_letter 29 = .ok (.iload_n 1, 1) := by decide +kernel
theorem dX12_letter_30 : decode cX12_letter 30 = .ok (.iadd, 1) := by decide +kernel
theorem dX12_letter_31 : decode cX12_letter 31 = .ok (.laload, 1) := by decide +kernel
theorem dX12_letter_32 : decode cX12_letter 32 = .ok (.lstore_n 3, 1) := by decide +kernel
theorem dX12_letter_33 : decode cX12_letter 33 = .ok (.iconst 0, 1) := by decide +kernel
theorem dX12_letter_34 : decode cX12_letter 34 = .ok (.istore 5, 2) := by decide +kernel
theorem dX12_letter_36 : decode cX12_letter 36 = .ok (.lload_n 3, 1) := by decide +kernel
theorem dX12_letter_37 : decode cX12_letter 37 = .ok (.lstore 6, 2) := by decide +kernel
theorem dX12_letter_39 : decode cX12_letter 39 = .ok (.lload 6, 2) := by decide +kernel
theorem dX12_letter_41 : decode cX12_letter 41 = .ok (.lconst 0, 1) := by decide +kernel
theorem dX12_letter_42 : decode cX12_letter 42 = .ok (.lcmp, 1) := by decide +kernel
theorem dX12_letter_43 : decode cX12_letter 43 = .ok (.ifCond .le 16, 3) := by decide +kernel
theorem dX12_letter_46 : decode cX12_letter 46 = .ok (.iinc 5 1, 3) := by decide +kernel
theorem dX12_letter_49 : decode cX12_letter 49 = .ok (.lload 6, 2) := by decide +kernel
theorem dX12_letter_51 : decode cX12_letter 51 = .ok (.bipush 8, 2) := by decide +kernel
theorem dX12_letter_53 : decode cX12_letter 53 = .ok (.lshr, 1) := by decide +kernel
theorem dX12_letter_54 : decode cX12_letter 54 = .ok (.lstore 6, 2) := by decide +kernel
theorem dX12_letter_56 : decode cX12_letter 56 = .ok (.goto (-17), 3) := by decide +kernel
theorem dX12_letter_59 : decode cX12_letter 59 = .ok (.iload_n 2, 1) := by decide +kernel
theorem dX12_letter_60 : decode cX12_letter 60 = .ok (.iload 5, 2) := by decide +kernel
theorem dX12_letter_62 : decode cX12_letter 62 = .ok (.if_icmp .lt 7, 3) := by decide +kernel
theorem dX12_letter_65 : decode cX12_letter 65 = .ok (.iconst 0, 1) := by decide +kernel
theorem dX12_letter_66 : decode cX12_letter 66 = .ok (.goto 24, 3) := by decide +kernel
theorem dX12_letter_69 : decode cX12_letter 69 = .ok (.lload_n 3, 1) := by decide +kernel
theorem dX12_letter_70 : decode cX12_letter 70 = .ok (.bipush 8, 2) := by decide +kernel
theorem dX12_letter_72 : decode cX12_letter 72 = .ok (.iload 5, 2) := by decide +kernel
theorem dX12_letter_74 : decode cX12_letter 74 = .ok (.iconst 1, 1) := by decide +kernel
theorem dX12_letter_75 : decode cX12_letter 75 = .ok (.isub, 1) := by decide +kernel
theorem dX12_letter_76 : decode cX12_letter 76 = .ok (.iload_n 2, 1) := by decide +kernel
theorem dX12_letter_77 : decode cX12_letter 77 = .ok (.isub, 1) := by decide +kernel
theorem dX12_letter_78 : decode cX12_letter 78 = .ok (.imul, 1) := by decide +kernel
theorem dX12_letter_79 : decode cX12_letter 79 = .ok (.lshr, 1) := by decide +kernel
theorem dX12_letter_80 : decode cX12_letter 80 = .ok (.ldc2_w 576, 3) := by decide +kernel
theorem dX12_letter_83 : decode cX12_letter 83 = .ok (.land, 1) := by decide +kernel
theorem dX12_letter_84 : decode cX12_letter 84 = .ok (.l2i, 1) := by decide +kernel
theorem dX12_letter_85 : decode cX12_letter 85 = .ok (.bipush 97, 2) := by decide +kernel
theorem dX12_letter_87 : decode cX12_letter 87 = .ok (.isub, 1) := by decide +kernel
theorem dX12_letter_88 : decode cX12_letter 88 = .ok (.iconst 1, 1) := by decide +kernel
theorem dX12_letter_89 : decode cX12_letter 89 = .ok (.iadd, 1) := by decide +kernel
theorem dX12_letter_90 : decode cX12_letter 90 = .ok (.ireturn, 1) := by decide +kernel
theorem dX12_path_0 : decode cX12_path 0 = .ok (.aload_n 0, 1) := by decide +kernel
theorem dX12_path_1 : decode cX12_path 1 = .ok (.iload_n 1, 1) := by decide +kernel
theorem dX12_path_2 : decode cX12_path 2 = .ok (.invokevirtual 573, 3) := by decide +kernel
theorem dX12_path_5 : decode cX12_path 5 = .ok (.ifCond .ne 5, 3) := by decide +kernel
theorem dX12_path_8 : decode cX12_path 8 = .ok (.iconst (-1), 1) := by decide +kernel
theorem dX12_path_9 : decode cX12_path 9 = .ok (.ireturn, 1) := by decide +kernel
theorem dX12_path_10 : decode cX12_path 10 = .ok (.iload_n 2, 1) := by decide +kernel
theorem dX12_path_11 : decode cX12_path 11 = .ok (.tableswitch 125 0 8 #[49, 63, 71, 79, 87, 95, 102, 110, 118], 49) := by decide +kernel
theorem dX12_path_60 : decode cX12_path 60 = .ok (.aload_n 0, 1) := by decide +kernel
theorem dX12_path_61 : decode cX12_path 61 = .ok (.getfield 69, 3) := by decide +kernel
theorem dX12_path_64 : decode cX12_path 64 = .ok (.iconst 4, 1) := by decide +kernel
theorem dX12_path_65 : decode cX12_path 65 = .ok (.aload_n 0, 1) := by decide +kernel
theorem dX12_path_66 : decode cX12_path 66 = .ok (.getfield 51, 3) := by decide +kernel
theorem dX12_path_69 : decode cX12_path 69 = .ok (.imul, 1) := by decide +kernel
theorem dX12_path_70 : decode cX12_path 70 = .ok (.iload_n 1, 1) := by decide +kernel
theorem dX12_path_71 : decode cX12_path 71 = .ok (.iadd, 1) := by decide +kernel
theorem dX12_path_72 : decode cX12_path 72 = .ok (.iaload, 1) := by decide +kernel
theorem dX12_path_73 : decode cX12_path 73 = .ok (.ireturn, 1) := by decide +kernel
theorem dX12_path_74 : decode cX12_path 74 = .ok (.aload_n 0, 1) := by decide +kernel
theorem dX12_path_75 : decode cX12_path 75 = .ok (.iconst 0, 1) := by decide +kernel
theorem dX12_path_76 : decode cX12_path 76 = .ok (.iload_n 1, 1) := by decide +kernel
theorem dX12_path_77 : decode cX12_path 77 = .ok (.iconst 0, 1) := by decide +kernel
theorem dX12_path_78 : decode cX12_path 78 = .ok (.invokevirtual 438, 3) := by decide +kernel
theorem dX12_path_81 : decode cX12_path 81 = .ok (.ireturn, 1) := by decide +kernel
theorem dX12_path_82 : decode cX12_path 82 = .ok (.aload_n 0, 1) := by decide +kernel
theorem dX12_path_83 : decode cX12_path 83 = .ok (.iconst 0, 1) := by decide +kernel
theorem dX12_path_84 : decode cX12_path 84 = .ok (.iload_n 1, 1) := by decide +kernel
theorem dX12_path_85 : decode cX12_path 85 = .ok (.iconst 1, 1) := by decide +kernel
theorem dX12_path_86 : decode cX12_path 86 = .ok (.invokevirtual 438, 3) := by decide +kernel
theorem dX12_path_89 : decode cX12_path 89 = .ok (.ireturn, 1) := by decide +kernel
theorem dX12_path_90 : decode cX12_path 90 = .ok (.aload_n 0, 1) := by decide +kernel
theorem dX12_path_91 : decode cX12_path 91 = .ok (.iconst 0, 1) := by decide +kernel
theorem dX12_path_92 : decode cX12_path 92 = .ok (.iload_n 1, 1) := by decide +kernel
theorem dX12_path_93 : decode cX12_path 93 = .ok (.iconst 2, 1) := by decide +kernel
theorem dX12_path_94 : decode cX12_path 94 = .ok (.invokevirtual 438, 3) := by decide +kernel
theorem dX12_path_97 : decode cX12_path 97 = .ok (.ireturn, 1) := by decide +kernel
theorem dX12_path_98 : decode cX12_path 98 = .ok (.aload_n 0, 1) := by decide +kernel
theorem dX12_path_99 : decode cX12_path 99 = .ok (.iconst 0, 1) := by decide +kernel
theorem dX12_path_100 : decode cX12_path 100 = .ok (.iload_n 1, 1) := by decide +kernel
theorem dX12_path_101 : decode cX12_path 101 = .ok (.iconst 3, 1) := by decide +kernel
theorem dX12_path_102 : decode cX12_path 102 = .ok (.invokevirtual 438, 3) := by decide +kernel
theorem dX12_path_105 : decode cX12_path 105 = .ok (.ireturn, 1) := by decide +kernel
theorem dX12_path_106 : decode cX12_path 106 = .ok (.aload_n 0, 1) := by decide +kernel
theorem dX12_path_107 : decode cX12_path 107 = .ok (.iconst 0, 1) := by decide +kernel
theorem dX12_path_108 : decode cX12_path 108 = .ok (.iload_n 1, 1) := by decide +kernel
theorem dX12_path_109 : decode cX12_path 109 = .ok (.invokevirtual 442, 3) := by decide +kernel
theorem dX12_path_112 : decode cX12_path 112 = .ok (.ireturn, 1) := by decide +kernel
theorem dX12_path_113 : decode cX12_path 113 = .ok (.aload_n 0, 1) := by decide +kernel
theorem dX12_path_114 : decode cX12_path 114 = .ok (.iconst 0, 1) := by decide +kernel
theorem dX12_path_115 : decode cX12_path 115 = .ok (.iload_n 1, 1) := by decide +kernel
theorem dX12_path_116 : decode cX12_path 116 = .ok (.iconst 4, 1) := by decide +kernel
theorem dX12_path_117 : decode cX12_path 117 = .ok (.invokevirtual 438, 3) := by decide +kernel
theorem dX12_path_120 : decode cX12_path 120 = .ok (.ireturn, 1) := by decide +kernel
theorem dX12_path_121 : decode cX12_path 121 = .ok (.aload_n 0, 1) := by decide +kernel
theorem dX12_path_122 : decode cX12_path 122 = .ok (.iconst 0, 1) := by decide +kernel
theorem dX12_path_123 : decode cX12_path 123 = .ok (.iload_n 1, 1) := by decide +kernel
theorem dX12_path_124 : decode cX12_path 124 = .ok (.iconst 5, 1) := by decide +kernel
theorem dX12_path_125 : decode cX12_path 125 = .ok (.invokevirtual 438, 3) := by decide +kernel
theorem dX12_path_128 : decode cX12_path 128 = .ok (.ireturn, 1) := by decide +kernel
theorem dX12_path_129 : decode cX12_path 129 = .ok (.aload_n 0, 1) := by decide +kernel
theorem dX12_path_130 : decode cX12_path 130 = .ok (.iconst 0, 1) := by decide +kernel
theorem dX12_path_131 : decode cX12_path 131 = .ok (.iload_n 1, 1) := by decide +kernel
theorem dX12_path_132 : decode cX12_path 132 = .ok (.invokevirtual 510, 3) := by decide +kernel
theorem dX12_path_135 : decode cX12_path 135 = .ok (.ireturn, 1) := by decide +kernel
theorem dX12_path_136 : decode cX12_path 136 = .ok (.iconst (-1), 1) := by decide +kernel
theorem dX12_path_137 : decode cX12_path 137 = .ok (.ireturn, 1) := by decide +kernel
theorem dX12_sumOf_0 : decode cX12_sumOf 0 = .ok (.lconst 0, 1) := by decide +kernel
theorem dX12_sumOf_1 : decode cX12_sumOf 1 = .ok (.lstore_n 3, 1) := by decide +kernel
theorem dX12_sumOf_2 : decode cX12_sumOf 2 = .ok (.iload_n 1, 1) := by decide +kernel
theorem dX12_sumOf_3 : decode cX12_sumOf 3 = .ok (.i2l, 1) := by decide +kernel
theorem dX12_sumOf_4 : decode cX12_sumOf 4 = .ok (.lstore 5, 2) := by decide +kernel
theorem dX12_sumOf_6 : decode cX12_sumOf 6 = .ok (.lload 5, 2) := by decide +kernel
theorem dX12_sumOf_8 : decode cX12_sumOf 8 = .ok (.iload_n 1, 1) := by decide +kernel
theorem dX12_sumOf_9 : decode cX12_sumOf 9 = .ok (.iload_n 2, 1) := by decide +kernel
theorem dX12_sumOf_10 : decode cX12_sumOf 10 = .ok (.iadd, 1) := by decide +kernel
theorem dX12_sumOf_11 : decode cX12_sumOf 11 = .ok (.i2l, 1) := by decide +kernel
theorem dX12_sumOf_12 : decode cX12_sumOf 12 = .ok (.lcmp, 1) := by decide +kernel
theorem dX12_sumOf_13 : decode cX12_sumOf 13 = .ok (.ifCond .ge 42, 3) := by decide +kernel
theorem dX12_sumOf_16 : decode cX12_sumOf 16 = .ok (.lload_n 3, 1) := by decide +kernel
theorem dX12_sumOf_17 : decode cX12_sumOf 17 = .ok (.lload 5, 2) := by decide +kernel
theorem dX12_sumOf_19 : decode cX12_sumOf 19 = .ok (.lload 5, 2) := by decide +kernel
theorem dX12_sumOf_21 : decode cX12_sumOf 21 = .ok (.lmul, 1) := by decide +kernel
theorem dX12_sumOf_22 : decode cX12_sumOf 22 = .ok (.ldc2_w 578, 3) := by decide +kernel
theorem dX12_sumOf_25 : decode cX12_sumOf 25 = .ok (.lload 5, 2) := by decide +kernel
theorem dX12_sumOf_27 : decode cX12_sumOf 27 = .ok (.lmul, 1) := by decide +kernel
theorem dX12_sumOf_28 : decode cX12_sumOf 28 = .ok (.ladd, 1) := by decide +kernel
theorem dX12_sumOf_29 : decode cX12_sumOf 29 = .ok (.aload_n 0, 1) := by decide +kernel
theorem dX12_sumOf_30 : decode cX12_sumOf 30 = .ok (.getfield 63, 3) := by decide +kernel
theorem dX12_sumOf_33 : decode cX12_sumOf 33 = .ok (.aload_n 0, 1) := by decide +kernel
theorem dX12_sumOf_34 : decode cX12_sumOf 34 = .ok (.getfield 51, 3) := by decide +kernel
theorem dX12_sumOf_37 : decode cX12_sumOf 37 = .ok (.iaload, 1) := by decide +kernel
theorem dX12_sumOf_38 : decode cX12_sumOf 38 = .ok (.i2l, 1) := by decide +kernel
theorem dX12_sumOf_39 : decode cX12_sumOf 39 = .ok (.ladd, 1) := by decide +kernel
theorem dX12_sumOf_40 : decode cX12_sumOf 40 = .ok (.ldc2_w 580, 3) := by decide +kernel
theorem dX12_sumOf_43 : decode cX12_sumOf 43 = .ok (.lrem, 1) := by decide +kernel
theorem dX12_sumOf_44 : decode cX12_sumOf 44 = .ok (.ladd, 1) := by decide +kernel
theorem dX12_sumOf_45 : decode cX12_sumOf 45 = .ok (.lstore_n 3, 1) := by decide +kernel
theorem dX12_sumOf_46 : decode cX12_sumOf 46 = .ok (.lload 5, 2) := by decide +kernel
theorem dX12_sumOf_48 : decode cX12_sumOf 48 = .ok (.lconst 1, 1) := by decide +kernel
theorem dX12_sumOf_49 : decode cX12_sumOf 49 = .ok (.ladd, 1) := by decide +kernel
theorem dX12_sumOf_50 : decode cX12_sumOf 50 = .ok (.lstore 5, 2) := by decide +kernel
theorem dX12_sumOf_52 : decode cX12_sumOf 52 = .ok (.goto (-46), 3) := by decide +kernel
theorem dX12_sumOf_55 : decode cX12_sumOf 55 = .ok (.lload_n 3, 1) := by decide +kernel
theorem dX12_sumOf_56 : decode cX12_sumOf 56 = .ok (.ldc2_w 580, 3) := by decide +kernel
theorem dX12_sumOf_59 : decode cX12_sumOf 59 = .ok (.lrem, 1) := by decide +kernel
theorem dX12_sumOf_60 : decode cX12_sumOf 60 = .ok (.l2i, 1) := by decide +kernel
theorem dX12_sumOf_61 : decode cX12_sumOf 61 = .ok (.ireturn, 1) := by decide +kernel
theorem dX12_segment_0 : decode cX12_segment 0 = .ok (.iconst (-1), 1) := by decide +kernel
theorem dX12_segment_1 : decode cX12_segment 1 = .ok (.istore_n 3, 1) := by decide +kernel
theorem dX12_segment_2 : decode cX12_segment 2 = .ok (.iconst 0, 1) := by decide +kernel
theorem dX12_segment_3 : decode cX12_segment 3 = .ok (.istore 4, 2) := by decide +kernel
theorem dX12_segment_5 : decode cX12_segment 5 = .ok (.iconst 0, 1) := by decide +kernel
theorem dX12_segment_6 : decode cX12_segment 6 = .ok (.istore 5, 2) := by decide +kernel
theorem dX12_segment_8 : decode cX12_segment 8 = .ok (.iload 5, 2) := by decide +kernel
theorem dX12_segment_10 : decode cX12_segment 10 = .ok (.aload_n 0, 1) := by decide +kernel
theorem dX12_segment_11 : decode cX12_segment 11 = .ok (.iconst 0, 1) := by decide +kernel
theorem dX12_segment_12 : decode cX12_segment 12 = .ok (.bipush 6, 2) := by decide +kernel
theorem dX12_segment_14 : decode cX12_segment 14 = .ok (.invokevirtual 402, 3) := by decide +kernel
theorem dX12_segment_17 : decode cX12_segment 17 = .ok (.if_icmp .ge 41, 3) := by decide +kernel
theorem dX12_segment_20 : decode cX12_segment 20 = .ok (.iload_n 3, 1) := by decide +kernel
theorem dX12_segment_21 : decode cX12_segment 21 = .ok (.iconst (-1), 1) := by decide +kernel
theorem dX12_segment_22 : decode cX12_segment 22 = .ok (.if_icmp .ne 36, 3) := by decide +kernel
theorem dX12_segment_25 : decode cX12_segment 25 = .ok (.aload_n 0, 1) := by decide +kernel
theorem dX12_segment_26 : decode cX12_segment 26 = .ok (.iconst 0, 1) := by decide +kernel
theorem dX12_segment_27 : decode cX12_segment 27 = .ok (.iload 5, 2) := by decide +kernel
theorem dX12_segment_29 : decode cX12_segment 29 = .ok (.bipush 6, 2) := by decide +kernel
theorem dX12_segment_31 : decode cX12_segment 31 = .ok (.invokevirtual 445, 3) := by decide +kernel
theorem dX12_segment_34 : decode cX12_segment 34 = .ok (.ifCond .ne 6, 3) := by decide +kernel
theorem dX12_segment_37 : decode cX12_segment 37 = .ok (.goto 15, 3) := by decide +kernel
theorem dX12_segment_40 : decode cX12_segment 40 = .ok (.iload 4, 2) := by decide +kernel
theorem dX12_segment_42 : decode cX12_segment 42 = .ok (.iload_n 1, 1) := by decide +kernel
theorem dX12_segment_43 : decode cX12_segment 43 = .ok (.if_icmp .ne 6, 3) := by decide +kernel
theorem dX12_segment_46 : decode cX12_segment 46 = .ok (.iload 5, 2) := by decide +kernel
theorem dX12_segment_48 : decode cX12_segment 48 = .ok (.istore_n 3, 1) := by decide +kernel
theorem dX12_segment_49 : decode cX12_segment 49 = .ok (.iinc 4 1, 3) := by decide +kernel
theorem dX12_segment_52 : decode cX12_segment 52 = .ok (.iinc 5 1, 3) := by decide +kernel
theorem dX12_segment_55 : decode cX12_segment 55 = .ok (.goto (-47), 3) := by decide +kernel
theorem dX12_segment_58 : decode cX12_segment 58 = .ok (.iload_n 3, 1) := by decide +kernel
theorem dX12_segment_59 : decode cX12_segment 59 = .ok (.iconst (-1), 1) := by decide +kernel
theorem dX12_segment_60 : decode cX12_segment 60 = .ok (.if_icmp .ne 5, 3) := by decide +kernel
theorem dX12_segment_63 : decode cX12_segment 63 = .ok (.iconst (-1), 1) := by decide +kernel
theorem dX12_segment_64 : decode cX12_segment 64 = .ok (.ireturn, 1) := by decide +kernel
theorem dX12_segment_65 : decode cX12_segment 65 = .ok (.iload_n 2, 1) := by decide +kernel
theorem dX12_segment_66 : decode cX12_segment 66 = .ok (.iconst 0, 1) := by decide +kernel
theorem dX12_segment_67 : decode cX12_segment 67 = .ok (.iconst 4, 1) := by decide +kernel
theorem dX12_segment_68 : decode cX12_segment 68 = .ok (.invokestatic 310, 3) := by decide +kernel
theorem dX12_segment_71 : decode cX12_segment 71 = .ok (.ifCond .eq 13, 3) := by decide +kernel
theorem dX12_segment_74 : decode cX12_segment 74 = .ok (.aload_n 0, 1) := by decide +kernel
theorem dX12_segment_75 : decode cX12_segment 75 = .ok (.iconst 0, 1) := by decide +kernel
theorem dX12_segment_76 : decode cX12_segment 76 = .ok (.iload_n 3, 1) := by decide +kernel
theorem dX12_segment_77 : decode cX12_segment 77 = .ok (.iload_n 2, 1) := by decide +kernel
theorem dX12_segment_78 : decode cX12_segment 78 = .ok (.invokevirtual 445, 3) := by decide +kernel
theorem dX12_segment_81 : decode cX12_segment 81 = .ok (.goto 30, 3) := by decide +kernel
theorem dX12_segment_84 : decode cX12_segment 84 = .ok (.iload_n 2, 1) := by decide +kernel
theorem dX12_segment_85 : decode cX12_segment 85 = .ok (.iconst 5, 1) := by decide +kernel
theorem dX12_segment_86 : decode cX12_segment 86 = .ok (.if_icmp .ne 24, 3) := by decide +kernel
theorem dX12_segment_89 : decode cX12_segment 89 = .ok (.aload_n 0, 1) := by decide +kernel
theorem dX12_segment_90 : decode cX12_segment 90 = .ok (.aload_n 0, 1) := by decide +kernel
theorem dX12_segment_91 : decode cX12_segment 91 = .ok (.iconst 0, 1) := by decide +kernel
theorem dX12_segment_92 : decode cX12_segment 92 = .ok (.iload_n 3, 1) := by decide +kernel
theorem dX12_segment_93 : decode cX12_segment 93 = .ok (.iconst 2, 1) := by decide +kernel
theorem dX12_segment_94 : decode cX12_segment 94 = .ok (.invokevirtual 445, 3) := by decide +kernel
theorem dX12_segment_97 : decode cX12_segment 97 = .ok (.aload_n 0, 1) := by decide +kernel
theorem dX12_segment_98 : decode cX12_segment 98 = .ok (.iconst 0, 1) := by decide +kernel
theorem dX12_segment_99 : decode cX12_segment 99 = .ok (.iload_n 3, 1) := by decide +kernel
theorem dX12_segment_100 : decode cX12_segment 100 = .ok (.iconst 3, 1) := by decide +kernel
theorem dX12_segment_101 : decode cX12_segment 101 = .ok (.invokevirtual 445, 3) := by decide +kernel
theorem dX12_segment_104 : decode cX12_segment 104 = .ok (.invokevirtual 582, 3) := by decide +kernel
theorem dX12_segment_107 : decode cX12_segment 107 = .ok (.goto 4, 3) := by decide +kernel
theorem dX12_segment_110 : decode cX12_segment 110 = .ok (.iconst (-1), 1) := by decide +kernel
theorem dX12_segment_111 : decode cX12_segment 111 = .ok (.ireturn, 1) := by decide +kernel
theorem dX12_octet_0 : decode cX12_octet 0 = .ok (.iload_n 1, 1) := by decide +kernel
theorem dX12_octet_1 : decode cX12_octet 1 = .ok (.iconst 0, 1) := by decide +kernel
theorem dX12_octet_2 : decode cX12_octet 2 = .ok (.aload_n 0, 1) := by decide +kernel
theorem dX12_octet_3 : decode cX12_octet 3 = .ok (.getfield 54, 3) := by decide +kernel
theorem dX12_octet_6 : decode cX12_octet 6 = .ok (.aload_n 0, 1) := by decide +kernel
theorem dX12_octet_7 : decode cX12_octet 7 = .ok (.getfield 51, 3) := by decide +kernel
theorem dX12_octet_10 : decode cX12_octet 10 = .ok (.iaload, 1) := by decide +kernel
theorem dX12_octet_11 : decode cX12_octet 11 = .ok (.iconst 1, 1) := by decide +kernel
theorem dX12_octet_12 : decode cX12_octet 12 = .ok (.isub, 1) := by decide +kernel
theorem dX12_octet_13 : decode cX12_octet 13 = .ok (.invokestatic 310, 3) := by decide +kernel
theorem dX12_octet_16 : decode cX12_octet 16 = .ok (.ifCond .ne 7, 3) := by decide +kernel
theorem dX12_octet_19 : decode cX12_octet 19 = .ok (.iconst (-1), 1) := by decide +kernel
theorem dX12_octet_20 : decode cX12_octet 20 = .ok (.goto 23, 3) := by decide +kernel
theorem dX12_octet_23 : decode cX12_octet 23 = .ok (.iload_n 1, 1) := by decide +kernel
theorem dX12_octet_24 : decode cX12_octet 24 = .ok (.aload_n 0, 1) := by decide +kernel
theorem dX12_octet_25 : decode cX12_octet 25 = .ok (.iconst 0, 1) := by decide +kernel
theorem dX12_octet_26 : decode cX12_octet 26 = .ok (.iconst 4, 1) := by decide +kernel
theorem dX12_octet_27 : decode cX12_octet 27 = .ok (.invokevirtual 402, 3) := by decide +kernel
theorem dX12_octet_30 : decode cX12_octet 30 = .ok (.if_icmp .ge 7, 3) := by decide +kernel
theorem dX12_octet_33 : decode cX12_octet 33 = .ok (.iconst 2, 1) := by decide +kernel
theorem dX12_octet_34 : decode cX12_octet 34 = .ok (.goto 9, 3) := by decide +kernel
theorem dX12_octet_37 : decode cX12_octet 37 = .ok (.aload_n 0, 1) := by decide +kernel
theorem dX12_octet_38 : decode cX12_octet 38 = .ok (.getfield 158, 3) := by decide +kernel
theorem dX12_octet_41 : decode cX12_octet 41 = .ok (.iload_n 1, 1) := by decide +kernel
theorem dX12_octet_42 : decode cX12_octet 42 = .ok (.iaload, 1) := by decide +kernel
theorem dX12_octet_43 : decode cX12_octet 43 = .ok (.ireturn, 1) := by decide +kernel
theorem dX12_refusals_0 : decode cX12_refusals 0 = .ok (.iload_n 1, 1) := by decide +kernel
theorem dX12_refusals_1 : decode cX12_refusals 1 = .ok (.iconst 0, 1) := by decide +kernel
theorem dX12_refusals_2 : decode cX12_refusals 2 = .ok (.iconst 3, 1) := by decide +kernel
theorem dX12_refusals_3 : decode cX12_refusals 3 = .ok (.invokestatic 310, 3) := by decide +kernel
theorem dX12_refusals_6 : decode cX12_refusals 6 = .ok (.ifCond .eq 15, 3) := by decide +kernel
theorem dX12_refusals_9 : decode cX12_refusals 9 = .ok (.aload_n 0, 1) := by decide +kernel
theorem dX12_refusals_10 : decode cX12_refusals 10 = .ok (.iconst 0, 1) := by decide +kernel
theorem dX12_refusals_11 : decode cX12_refusals 11 = .ok (.bipush 10, 2) := by decide +kernel
theorem dX12_refusals_13 : decode cX12_refusals 13 = .ok (.iload_n 1, 1) := by decide +kernel
theorem dX12_refusals_14 : decode cX12_refusals 14 = .ok (.iadd, 1) := by decide +kernel
theorem dX12_refusals_15 : decode cX12_refusals 15 = .ok (.invokevirtual 402, 3) := by decide +kernel
theorem dX12_refusals_18 : decode cX12_refusals 18 = .ok (.goto 4, 3) := by decide +kernel
theorem dX12_refusals_21 : decode cX12_refusals 21 = .ok (.iconst (-1), 1) := by decide +kernel
theorem dX12_refusals_22 : decode cX12_refusals 22 = .ok (.ireturn, 1) := by decide +kernel
theorem dX12_isAhead_0 : decode cX12_isAhead 0 = .ok (.aload_n 0, 1) := by decide +kernel
theorem dX12_isAhead_1 : decode cX12_isAhead 1 = .ok (.getfield 138, 3) := by decide +kernel
theorem dX12_isAhead_4 : decode cX12_isAhead 4 = .ok (.ifCond .eq 30, 3) := by decide +kernel
theorem dX12_isAhead_7 : decode cX12_isAhead 7 = .ok (.iload_n 1, 1) := by decide +kernel
theorem dX12_isAhead_8 : decode cX12_isAhead 8 = .ok (.iload_n 2, 1) := by decide +kernel
theorem dX12_isAhead_9 : decode cX12_isAhead 9 = .ok (.iload_n 3, 1) := by decide +kernel
theorem dX12_isAhead_10 : decode cX12_isAhead 10 = .ok (.invokestatic 310, 3) := by decide +kernel
theorem dX12_isAhead_13 : decode cX12_isAhead 13 = .ok (.ifCond .eq 21, 3) := by decide +kernel
theorem dX12_isAhead_16 : decode cX12_isAhead 16 = .ok (.aload_n 0, 1) := by decide +kernel
theorem dX12_isAhead_17 : decode cX12_isAhead 17 = .ok (.iconst 0, 1) := by decide +kernel
theorem dX12_isAhead_18 : decode cX12_isAhead 18 = .ok (.iconst 0, 1) := by decide +kernel
theorem dX12_isAhead_19 : decode cX12_isAhead 19 = .ok (.invokevirtual 402, 3) := by decide +kernel
theorem dX12_isAhead_22 : decode cX12_isAhead 22 = .ok (.sipush 999, 3) := by decide +kernel
theorem dX12_isAhead_25 : decode cX12_isAhead 25 = .ok (.iload_n 1, 1) := by decide +kernel
theorem dX12_isAhead_26 : decode cX12_isAhead 26 = .ok (.isub, 1) := by decide +kernel
theorem dX12_isAhead_27 : decode cX12_isAhead 27 = .ok (.if_icmp .gt 7, 3) := by decide +kernel
theorem dX12_isAhead_30 : decode cX12_isAhead 30 = .ok (.iconst 1, 1) := by decide +kernel
theorem dX12_isAhead_31 : decode cX12_isAhead 31 = .ok (.goto 4, 3) := by decide +kernel
theorem dX12_isAhead_34 : decode cX12_isAhead 34 = .ok (.iconst 0, 1) := by decide +kernel
theorem dX12_isAhead_35 : decode cX12_isAhead 35 = .ok (.ireturn, 1) := by decide +kernel
theorem dX12_later_0 : decode cX12_later 0 = .ok (.aload_n 0, 1) := by decide +kernel
theorem dX12_later_1 : decode cX12_later 1 = .ok (.iload_n 1, 1) := by decide +kernel
theorem dX12_later_2 : decode cX12_later 2 = .ok (.iconst 0, 1) := by decide +kernel
theorem dX12_later_3 : decode cX12_later 3 = .ok (.sipush 200, 3) := by decide +kernel
theorem dX12_later_6 : decode cX12_later 6 = .ok (.invokevirtual 585, 3) := by decide +kernel
theorem dX12_later_9 : decode cX12_later 9 = .ok (.ifCond .ne 5, 3) := by decide +kernel
theorem dX12_later_12 : decode cX12_later 12 = .ok (.iconst (-1), 1) := by decide +kernel
theorem dX12_later_13 : decode cX12_later 13 = .ok (.ireturn, 1) := by decide +kernel
theorem dX12_later_14 : decode cX12_later 14 = .ok (.aload_n 0, 1) := by decide +kernel
theorem dX12_later_15 : decode cX12_later 15 = .ok (.iconst 1, 1) := by decide +kernel
theorem dX12_later_16 : decode cX12_later 16 = .ok (.iconst 0, 1) := by decide +kernel
theorem dX12_later_17 : decode cX12_later 17 = .ok (.invokevirtual 419, 3) := by decide +kernel
theorem dX12_later_20 : decode cX12_later 20 = .ok (.iconst 0, 1) := by decide +kernel
theorem dX12_later_21 : decode cX12_later 21 = .ok (.istore_n 3, 1) := by decide +kernel
theorem dX12_later_22 : decode cX12_later 22 = .ok (.iload_n 3, 1) := by decide +kernel
theorem dX12_later_23 : decode cX12_later 23 = .ok (.iload_n 1, 1) := by decide +kernel
theorem dX12_later_24 : decode cX12_later 24 = .ok (.if_icmp .ge 14, 3) := by decide +kernel
theorem dX12_later_27 : decode cX12_later 27 = .ok (.aload_n 0, 1) := by decide +kernel
theorem dX12_later_28 : decode cX12_later 28 = .ok (.iconst 1, 1) := by decide +kernel
theorem dX12_later_29 : decode cX12_later 29 = .ok (.invokevirtual 588, 3) := by decide +kernel
theorem dX12_later_32 : decode cX12_later 32 = .ok (.iinc 3 1, 3) := by decide +kernel
theorem dX12_later_35 : decode cX12_later 35 = .ok (.goto (-13), 3) := by decide +kernel
theorem dX12_later_38 : decode cX12_later 38 = .ok (.iload_n 2, 1) := by decide +kernel
theorem dX12_later_39 : decode cX12_later 39 = .ok (.tableswitch 67 0 4 #[33, 40, 47, 54, 60], 33) := by decide +kernel
theorem dX12_later_72 : decode cX12_later 72 = .ok (.aload_n 0, 1) := by decide +kernel
theorem dX12_later_73 : decode cX12_later 73 = .ok (.iconst 1, 1) := by decide +kernel
theorem dX12_later_74 : decode cX12_later 74 = .ok (.iconst 1, 1) := by decide +kernel
theorem dX12_later_75 : decode cX12_later 75 = .ok (.invokevirtual 402, 3) := by decide +kernel
theorem dX12_later_78 : decode cX12_later 78 = .ok (.ireturn, 1) := by decide +kernel
theorem dX12_later_79 : decode cX12_later 79 = .ok (.aload_n 0, 1) := by decide +kernel
theorem dX12_later_80 : decode cX12_later 80 = .ok (.iconst 1, 1) := by decide +kernel
theorem dX12_later_81 : decode cX12_later 81 = .ok (.iconst 2, 1) := by decide +kernel
theorem dX12_later_82 : decode cX12_later 82 = .ok (.invokevirtual 402, 3) := by decide +kernel
theorem dX12_later_85 : decode cX12_later 85 = .ok (.ireturn, 1) := by decide +kernel
theorem dX12_later_86 : decode cX12_later 86 = .ok (.aload_n 0, 1) := by decide +kernel
theorem dX12_later_87 : decode cX12_later 87 = .ok (.iconst 1, 1) := by decide +kernel
theorem dX12_later_88 : decode cX12_later 88 = .ok (.iconst 4, 1) := by decide +kernel
theorem dX12_later_89 : decode cX12_later 89 = .ok (.invokevirtual 402, 3) := by decide +kernel
theorem dX12_later_92 : decode cX12_later 92 = .ok (.ireturn, 1) := by decide +kernel
theorem dX12_later_93 : decode cX12_later 93 = .ok (.aload_n 0, 1) := by decide +kernel
theorem dX12_later_94 : decode cX12_later 94 = .ok (.iconst 1, 1) := by decide +kernel
theorem dX12_later_95 : decode cX12_later 95 = .ok (.invokevirtual 567, 3) := by decide +kernel
theorem dX12_later_98 : decode cX12_later 98 = .ok (.ireturn, 1) := by decide +kernel
theorem dX12_later_99 : decode cX12_later 99 = .ok (.aload_n 0, 1) := by decide +kernel
theorem dX12_later_100 : decode cX12_later 100 = .ok (.iconst 1, 1) := by decide +kernel
theorem dX12_later_101 : decode cX12_later 101 = .ok (.iconst 5, 1) := by decide +kernel
theorem dX12_later_102 : decode cX12_later 102 = .ok (.invokevirtual 402, 3) := by decide +kernel
theorem dX12_later_105 : decode cX12_later 105 = .ok (.ireturn, 1) := by decide +kernel
theorem dX12_later_106 : decode cX12_later 106 = .ok (.iconst (-1), 1) := by decide +kernel
theorem dX12_later_107 : decode cX12_later 107 = .ok (.ireturn, 1) := by decide +kernel
theorem dX12_finished_0 : decode cX12_finished 0 = .ok (.iconst 0, 1) := by decide +kernel
theorem dX12_finished_1 : decode cX12_finished 1 = .ok (.istore_n 1, 1) := by decide +kernel
theorem dX12_finished_2 : decode cX12_finished 2 = .ok (.aload_n 0, 1) := by decide +kernel
theorem dX12_finished_3 : decode cX12_finished 3 = .ok (.iload_n 1, 1) := by decide +kernel
theorem dX12_finished_4 : decode cX12_finished 4 = .ok (.iconst 0, 1) := by decide +kernel
theorem dX12_finished_5 : decode cX12_finished 5 = .ok (.sipush 200, 3) := by decide +kernel
theorem dX12_finished_8 : decode cX12_finished 8 = .ok (.invokevirtual 585, 3) := by decide +kernel
theorem dX12_finished_11 : decode cX12_finished 11 = .ok (.ifCond .eq 34, 3) := by decide +kernel
theorem dX12_finished_14 : decode cX12_finished 14 = .ok (.aload_n 0, 1) := by decide +kernel
theorem dX12_finished_15 : decode cX12_finished 15 = .ok (.iconst 1, 1) := by decide +kernel
theorem dX12_finished_16 : decode cX12_finished 16 = .ok (.iconst 2, 1) := by decide +kernel
theorem dX12_finished_17 : decode cX12_finished 17 = .ok (.invokevirtual 402, 3) := by decide +kernel
theorem dX12_finished_20 : decode cX12_finished 20 = .ok (.aload_n 0, 1) := by decide +kernel
theorem dX12_finished_21 : decode cX12_finished 21 = .ok (.getfield 54, 3) := by decide +kernel
theorem dX12_finished_24 : decode cX12_finished 24 = .ok (.aload_n 0, 1) := by decide +kernel
theorem dX12_finished_25 : decode cX12_finished 25 = .ok (.getfield 51, 3) := by decide +kernel
theorem dX12_finished_28 : decode cX12_finished 28 = .ok (.iaload, 1) := by decide +kernel
theorem dX12_finished_29 : decode cX12_finished 29 = .ok (.if_icmp .ne 5, 3) := by decide +kernel
theorem dX12_finished_32 : decode cX12_finished 32 = .ok (.iload_n 1, 1) := by decide +kernel
theorem dX12_finished_33 : decode cX12_finished 33 = .ok (.ireturn, 1) := by decide +kernel
theorem dX12_finished_34 : decode cX12_finished 34 = .ok (.aload_n 0, 1) := by decide +kernel
theorem dX12_finished_35 : decode cX12_finished 35 = .ok (.iconst 1, 1) := by decide +kernel
theorem dX12_finished_36 : decode cX12_finished 36 = .ok (.invokevirtual 588, 3) := by decide +kernel
theorem dX12_finished_39 : decode cX12_finished 39 = .ok (.iinc 1 1, 3) := by decide +kernel
theorem dX12_finished_42 : decode cX12_finished 42 = .ok (.goto (-40), 3) := by decide +kernel
theorem dX12_finished_45 : decode cX12_finished 45 = .ok (.iconst (-1), 1) := by decide +kernel
theorem dX12_finished_46 : decode cX12_finished 46 = .ok (.ireturn, 1) := by decide +kernel
theorem dX12_finish_0 : decode cX12_finish 0 = .ok (.aload_n 0, 1) := by decide +kernel
theorem dX12_finish_1 : decode cX12_finish 1 = .ok (.iconst 1, 1) := by decide +kernel
theorem dX12_finish_2 : decode cX12_finish 2 = .ok (.iconst 0, 1) := by decide +kernel
theorem dX12_finish_3 : decode cX12_finish 3 = .ok (.invokevirtual 419, 3) := by decide +kernel
theorem dX12_finish_6 : decode cX12_finish 6 = .ok (.aload_n 0, 1) := by decide +kernel
theorem dX12_finish_7 : decode cX12_finish 7 = .ok (.invokevirtual 591, 3) := by decide +kernel
theorem dX12_finish_10 : decode cX12_finish 10 = .ok (.ireturn, 1) := by decide +kernel
theorem dX12_without_0 : decode cX12_without 0 = .ok (.aload_n 0, 1) := by decide +kernel
theorem dX12_without_1 : decode cX12_without 1 = .ok (.iload_n 1, 1) := by decide +kernel
theorem dX12_without_2 : decode cX12_without 2 = .ok (.invokevirtual 573, 3) := by decide +kernel
theorem dX12_without_5 : decode cX12_without 5 = .ok (.ifCond .ne 5, 3) := by decide +kernel
theorem dX12_without_8 : decode cX12_without 8 = .ok (.iconst (-1), 1) := by decide +kernel
theorem dX12_without_9 : decode cX12_without 9 = .ok (.ireturn, 1) := by decide +kernel
theorem dX12_without_10 : decode cX12_without 10 = .ok (.aload_n 0, 1) := by decide +kernel
theorem dX12_without_11 : decode cX12_without 11 = .ok (.iconst 1, 1) := by decide +kernel
theorem dX12_without_12 : decode cX12_without 12 = .ok (.iconst 0, 1) := by decide +kernel
theorem dX12_without_13 : decode cX12_without 13 = .ok (.invokevirtual 419, 3) := by decide +kernel
theorem dX12_without_16 : decode cX12_without 16 = .ok (.aload_n 0, 1) := by decide +kernel
theorem dX12_without_17 : decode cX12_without 17 = .ok (.iconst 1, 1) := by decide +kernel
theorem dX12_without_18 : decode cX12_without 18 = .ok (.iload_n 1, 1) := by decide +kernel
theorem dX12_without_19 : decode cX12_without 19 = .ok (.invokevirtual 516, 3) := by decide +kernel
theorem dX12_without_22 : decode cX12_without 22 = .ok (.aload_n 0, 1) := by decide +kernel
theorem dX12_without_23 : decode cX12_without 23 = .ok (.invokevirtual 591, 3) := by decide +kernel
theorem dX12_without_26 : decode cX12_without 26 = .ok (.ireturn, 1) := by decide +kernel
theorem dX12_alone_0 : decode cX12_alone 0 = .ok (.aload_n 0, 1) := by decide +kernel
theorem dX12_alone_1 : decode cX12_alone 1 = .ok (.iload_n 1, 1) := by decide +kernel
theorem dX12_alone_2 : decode cX12_alone 2 = .ok (.invokevirtual 573, 3) := by decide +kernel
theorem dX12_alone_5 : decode cX12_alone 5 = .ok (.ifCond .ne 5, 3) := by decide +kernel
theorem dX12_alone_8 : decode cX12_alone 8 = .ok (.iconst (-1), 1) := by decide +kernel
theorem dX12_alone_9 : decode cX12_alone 9 = .ok (.ireturn, 1) := by decide +kernel
theorem dX12_alone_10 : decode cX12_alone 10 = .ok (.aload_n 0, 1) := by decide +kernel
theorem dX12_alone_11 : decode cX12_alone 11 = .ok (.iconst 1, 1) := by decide +kernel
theorem dX12_alone_12 : decode cX12_alone 12 = .ok (.iconst 0, 1) := by decide +kernel
theorem dX12_alone_13 : decode cX12_alone 13 = .ok (.invokevirtual 419, 3) := by decide +kernel
theorem dX12_alone_16 : decode cX12_alone 16 = .ok (.iconst 0, 1) := by decide +kernel
theorem dX12_alone_17 : decode cX12_alone 17 = .ok (.istore_n 2, 1) := by decide +kernel
theorem dX12_alone_18 : decode cX12_alone 18 = .ok (.iload_n 2, 1) := by decide +kernel
theorem dX12_alone_19 : decode cX12_alone 19 = .ok (.aload_n 0, 1) := by decide +kernel
theorem dX12_alone_20 : decode cX12_alone 20 = .ok (.getfield 66, 3) := by decide +kernel
theorem dX12_alone_23 : decode cX12_alone 23 = .ok (.aload_n 0, 1) := by decide +kernel
theorem dX12_alone_24 : decode cX12_alone 24 = .ok (.getfield 51, 3) := by decide +kernel
theorem dX12_alone_27 : decode cX12_alone 27 = .ok (.iaload, 1) := by decide +kernel
theorem dX12_alone_28 : decode cX12_alone 28 = .ok (.if_icmp .ge 20, 3) := by decide +kernel
theorem dX12_alone_31 : decode cX12_alone 31 = .ok (.iload_n 2, 1) := by decide +kernel
theorem dX12_alone_32 : decode cX12_alone 32 = .ok (.iload_n 1, 1) := by decide +kernel
theorem dX12_alone_33 : decode cX12_alone 33 = .ok (.if_icmp .eq 9, 3) := by decide +kernel
theorem dX12_alone_36 : decode cX12_alone 36 = .ok (.aload_n 0, 1) := by decide +kernel
theorem dX12_alone_37 : decode cX12_alone 37 = .ok (.iconst 1, 1) := by decide +kernel
theorem dX12_alone_38 : decode cX12_alone 38 = .ok (.iload_n 2, 1) := by decide +kernel
theorem dX12_alone_39 : decode cX12_alone 39 = .ok (.invokevirtual 516, 3) := by decide +kernel
theorem dX12_alone_42 : decode cX12_alone 42 = .ok (.iinc 2 1, 3) := by decide +kernel
theorem dX12_alone_45 : decode cX12_alone 45 = .ok (.goto (-27), 3) := by decide +kernel
theorem dX12_alone_48 : decode cX12_alone 48 = .ok (.aload_n 0, 1) := by decide +kernel
theorem dX12_alone_49 : decode cX12_alone 49 = .ok (.invokevirtual 591, 3) := by decide +kernel
theorem dX12_alone_52 : decode cX12_alone 52 = .ok (.ireturn, 1) := by decide +kernel
theorem dX12_isFinishedBy_0 : decode cX12_isFinishedBy 0 = .ok (.aload_n 0, 1) := by decide +kernel
theorem dX12_isFinishedBy_1 : decode cX12_isFinishedBy 1 = .ok (.iconst 1, 1) := by decide +kernel
theorem dX12_isFinishedBy_2 : decode cX12_isFinishedBy 2 = .ok (.iconst 0, 1) := by decide +kernel
theorem dX12_isFinishedBy_3 : decode cX12_isFinishedBy 3 = .ok (.invokevirtual 419, 3) := by decide +kernel
theorem dX12_isFinishedBy_6 : decode cX12_isFinishedBy 6 = .ok (.aload_n 0, 1) := by decide +kernel
theorem dX12_isFinishedBy_7 : decode cX12_isFinishedBy 7 = .ok (.iload_n 2, 1) := by decide +kernel
theorem dX12_isFinishedBy_8 : decode cX12_isFinishedBy 8 = .ok (.putfield 173, 3) := by decide +kernel
theorem dX12_isFinishedBy_11 : decode cX12_isFinishedBy 11 = .ok (.iconst 0, 1) := by decide +kernel
theorem dX12_isFinishedBy_12 : decode cX12_isFinishedBy 12 = .ok (.istore_n 3, 1) := by decide +kernel
theorem dX12_isFinishedBy_13 : decode cX12_isFinishedBy 13 = .ok (.iload_n 3, 1) := by decide +kernel
theorem dX12_isFinishedBy_14 : decode cX12_isFinishedBy 14 = .ok (.iload_n 1, 1) := by decide +kernel
theorem dX12_isFinishedBy_15 : decode cX12_isFinishedBy 15 = .ok (.if_icmp .ge 14, 3) := by decide +kernel
theorem dX12_isFinishedBy_18 : decode cX12_isFinishedBy 18 = .ok (.aload_n 0, 1) := by decide +kernel
theorem dX12_isFinishedBy_19 : decode cX12_isFinishedBy 19 = .ok (.iconst 1, 1) := by decide +kernel
theorem dX12_isFinishedBy_20 : decode cX12_isFinishedBy 20 = .ok (.invokevirtual 588, 3) := by decide +kernel
theorem dX12_isFinishedBy_23 : decode cX12_isFinishedBy 23 = .ok (.iinc 3 1, 3) := by decide +kernel
theorem dX12_isFinishedBy_26 : decode cX12_isFinishedBy 26 = .ok (.goto (-13), 3) := by decide +kernel
theorem dX12_isFinishedBy_29 : decode cX12_isFinishedBy 29 = .ok (.aload_n 0, 1) := by decide +kernel
theorem dX12_isFinishedBy_30 : decode cX12_isFinishedBy 30 = .ok (.aload_n 0, 1) := by decide +kernel
theorem dX12_isFinishedBy_31 : decode cX12_isFinishedBy 31 = .ok (.getfield 60, 3) := by decide +kernel
theorem dX12_isFinishedBy_34 : decode cX12_isFinishedBy 34 = .ok (.aload_n 0, 1) := by decide +kernel
theorem dX12_isFinishedBy_35 : decode cX12_isFinishedBy 35 = .ok (.getfield 51, 3) := by decide +kernel
theorem dX12_isFinishedBy_38 : decode cX12_isFinishedBy 38 = .ok (.iaload, 1) := by decide +kernel
theorem dX12_isFinishedBy_39 : decode cX12_isFinishedBy 39 = .ok (.putfield 173, 3) := by decide +kernel
theorem dX12_isFinishedBy_42 : decode cX12_isFinishedBy 42 = .ok (.aload_n 0, 1) := by decide +kernel
theorem dX12_isFinishedBy_43 : decode cX12_isFinishedBy 43 = .ok (.iconst 1, 1) := by decide +kernel
theorem dX12_isFinishedBy_44 : decode cX12_isFinishedBy 44 = .ok (.iconst 2, 1) := by decide +kernel
theorem dX12_isFinishedBy_45 : decode cX12_isFinishedBy 45 = .ok (.invokevirtual 402, 3) := by decide +kernel
theorem dX12_isFinishedBy_48 : decode cX12_isFinishedBy 48 = .ok (.aload_n 0, 1) := by decide +kernel
theorem dX12_isFinishedBy_49 : decode cX12_isFinishedBy 49 = .ok (.getfield 54, 3) := by decide +kernel
theorem dX12_isFinishedBy_52 : decode cX12_isFinishedBy 52 = .ok (.aload_n 0, 1) := by decide +kernel
theorem dX12_isFinishedBy_53 : decode cX12_isFinishedBy 53 = .ok (.getfield 51, 3) := by decide +kernel
theorem dX12_isFinishedBy_56 : decode cX12_isFinishedBy 56 = .ok (.iaload, 1) := by decide +kernel
theorem dX12_isFinishedBy_57 : decode cX12_isFinishedBy 57 = .ok (.if_icmp .ne 7, 3) := by decide +kernel
theorem dX12_isFinishedBy_60 : decode cX12_isFinishedBy 60 = .ok (.iconst 1, 1) := by decide +kernel
theorem dX12_isFinishedBy_61 : decode cX12_isFinishedBy 61 = .ok (.goto 4, 3) := by decide +kernel
theorem dX12_isFinishedBy_64 : decode cX12_isFinishedBy 64 = .ok (.iconst 0, 1) := by decide +kernel
theorem dX12_isFinishedBy_65 : decode cX12_isFinishedBy 65 = .ok (.ireturn, 1) := by decide +kernel
theorem dX12_window_0 : decode cX12_window 0 = .ok (.aload_n 0, 1) := by decide +kernel
theorem dX12_window_1 : decode cX12_window 1 = .ok (.iload_n 1, 1) := by decide +kernel
theorem dX12_window_2 : decode cX12_window 2 = .ok (.iconst 1, 1) := by decide +kernel
theorem dX12_window_3 : decode cX12_window 3 = .ok (.sipush 200, 3) := by decide +kernel
theorem dX12_window_6 : decode cX12_window 6 = .ok (.invokevirtual 585, 3) := by decide +kernel
theorem dX12_window_9 : decode cX12_window 9 = .ok (.ifCond .ne 5, 3) := by decide +kernel
theorem dX12_window_12 : decode cX12_window 12 = .ok (.iconst (-1), 1) := by decide +kernel
theorem dX12_window_13 : decode cX12_window 13 = .ok (.ireturn, 1) := by decide +kernel
theorem dX12_window_14 : decode cX12_window 14 = .ok (.aload_n 0, 1) := by decide +kernel
theorem dX12_window_15 : decode cX12_window 15 = .ok (.getfield 57, 3) := by decide +kernel
theorem dX12_window_18 : decode cX12_window 18 = .ok (.aload_n 0, 1) := by decide +kernel
theorem dX12_window_19 : decode cX12_window 19 = .ok (.getfield 51, 3) := by decide +kernel
theorem dX12_window_22 : decode cX12_window 22 = .ok (.iaload, 1) := by decide +kernel
theorem dX12_window_23 : decode cX12_window 23 = .ok (.istore_n 2, 1) := by decide +kernel
theorem dX12_window_24 : decode cX12_window 24 = .ok (.iload_n 2, 1) := by decide +kernel
theorem dX12_window_25 : decode cX12_window 25 = .ok (.bipush 99, 2) := by decide +kernel
theorem dX12_window_27 : decode cX12_window 27 = .ok (.if_icmp .gt 20, 3) := by decide +kernel
theorem dX12_window_30 : decode cX12_window 30 = .ok (.aload_n 0, 1) := by decide +kernel
theorem dX12_window_31 : decode cX12_window 31 = .ok (.iload_n 1, 1) := by decide +kernel
theorem dX12_window_32 : decode cX12_window 32 = .ok (.iload_n 2, 1) := by decide +kernel
theorem dX12_window_33 : decode cX12_window 33 = .ok (.invokevirtual 594, 3) := by decide +kernel
theorem dX12_window_36 : decode cX12_window 36 = .ok (.ifCond .eq 5, 3) := by decide +kernel
theorem dX12_window_39 : decode cX12_window 39 = .ok (.iload_n 2, 1) := by decide +kernel
theorem dX12_window_40 : decode cX12_window 40 = .ok (.ireturn, 1) := by decide +kernel
theorem dX12_window_41 : decode cX12_window 41 = .ok (.iinc 2 1, 3) := by decide +kernel
theorem dX12_window_44 : decode cX12_window 44 = .ok (.goto (-20), 3) := by decide +kernel
theorem dX12_window_47 : decode cX12_window 47 = .ok (.iconst (-1), 1) := by decide +kernel
theorem dX12_window_48 : decode cX12_window 48 = .ok (.ireturn, 1) := by decide +kernel
theorem dX12_odds_0 : decode cX12_odds 0 = .ok (.iload_n 1, 1) := by decide +kernel
theorem dX12_odds_1 : decode cX12_odds 1 = .ok (.iconst 0, 1) := by decide +kernel
theorem dX12_odds_2 : decode cX12_odds 2 = .ok (.iconst 1, 1) := by decide +kernel
theorem dX12_odds_3 : decode cX12_odds 3 = .ok (.invokestatic 310, 3) := by decide +kernel
theorem dX12_odds_6 : decode cX12_odds 6 = .ok (.ifCond .eq 13, 3) := by decide +kernel
theorem dX12_odds_9 : decode cX12_odds 9 = .ok (.aload_n 0, 1) := by decide +kernel
theorem dX12_odds_10 : decode cX12_odds 10 = .ok (.iconst 1, 1) := by decide +kernel
theorem dX12_odds_11 : decode cX12_odds 11 = .ok (.iconst 1, 1) := by decide +kernel
theorem dX12_odds_12 : decode cX12_odds 12 = .ok (.iconst 1, 1) := by decide +kernel
theorem dX12_odds_13 : decode cX12_odds 13 = .ok (.invokevirtual 585, 3) := by decide +kernel
theorem dX12_odds_16 : decode cX12_odds 16 = .ok (.ifCond .ne 5, 3) := by decide +kernel
theorem dX12_odds_19 : decode cX12_odds 19 = .ok (.iconst (-1), 1) := by decide +kernel
theorem dX12_odds_20 : decode cX12_odds 20 = .ok (.ireturn, 1) := by decide +kernel
theorem dX12_odds_21 : decode cX12_odds 21 = .ok (.aload_n 0, 1) := by decide +kernel
theorem dX12_odds_22 : decode cX12_odds 22 = .ok (.iconst 1, 1) := by decide +kernel
theorem dX12_odds_23 : decode cX12_odds 23 = .ok (.iconst 0, 1) := by decide +kernel
theorem dX12_odds_24 : decode cX12_odds 24 = .ok (.invokevirtual 419, 3) := by decide +kernel
theorem dX12_odds_27 : decode cX12_odds 27 = .ok (.aload_n 0, 1) := by decide +kernel
theorem dX12_odds_28 : decode cX12_odds 28 = .ok (.iconst 1, 1) := by decide +kernel
theorem dX12_odds_29 : decode cX12_odds 29 = .ok (.invokevirtual 588, 3) := by decide +kernel
theorem dX12_odds_32 : decode cX12_odds 32 = .ok (.aload_n 0, 1) := by decide +kernel
theorem dX12_odds_33 : decode cX12_odds 33 = .ok (.getfield 200, 3) := by decide +kernel
theorem dX12_odds_36 : decode cX12_odds 36 = .ok (.ifCond .ne 5, 3) := by decide +kernel
theorem dX12_odds_39 : decode cX12_odds 39 = .ok (.iconst (-1), 1) := by decide +kernel
theorem dX12_odds_40 : decode cX12_odds 40 = .ok (.ireturn, 1) := by decide +kernel
theorem dX12_odds_41 : decode cX12_odds 41 = .ok (.iload_n 1, 1) := by decide +kernel
theorem dX12_odds_42 : decode cX12_odds 42 = .ok (.iconst 1, 1) := by decide +kernel
theorem dX12_odds_43 : decode cX12_odds 43 = .ok (.if_icmp .ne 8, 3) := by decide +kernel
theorem dX12_odds_46 : decode cX12_odds 46 = .ok (.bipush 100, 2) := by decide +kernel
theorem dX12_odds_48 : decode cX12_odds 48 = .ok (.goto 26, 3) := by decide +kernel
theorem dX12_odds_51 : decode cX12_odds 51 = .ok (.aload_n 0, 1) := by decide +kernel
theorem dX12_odds_52 : decode cX12_odds 52 = .ok (.getfield 206, 3) := by decide +kernel
theorem dX12_odds_55 : decode cX12_odds 55 = .ok (.ifCond .eq 7, 3) := by decide +kernel
theorem dX12_odds_58 : decode cX12_odds 58 = .ok (.iconst 0, 1) := by decide +kernel
theorem dX12_odds_59 : decode cX12_odds 59 = .ok (.goto 15, 3) := by decide +kernel
theorem dX12_odds_62 : decode cX12_odds 62 = .ok (.bipush 100, 2) := by decide +kernel
theorem dX12_odds_64 : decode cX12_odds 64 = .ok (.aload_n 0, 1) := by decide +kernel
theorem dX12_odds_65 : decode cX12_odds 65 = .ok (.getfield 78, 3) := by decide +kernel
theorem dX12_odds_68 : decode cX12_odds 68 = .ok (.aload_n 0, 1) := by decide +kernel
theorem dX12_odds_69 : decode cX12_odds 69 = .ok (.getfield 51, 3) := by decide +kernel
theorem dX12_odds_72 : decode cX12_odds 72 = .ok (.iaload, 1) := by decide +kernel
theorem dX12_odds_73 : decode cX12_odds 73 = .ok (.isub, 1) := by decide +kernel
theorem dX12_odds_74 : decode cX12_odds 74 = .ok (.ireturn, 1) := by decide +kernel
theorem dX12_meet_0 : decode cX12_meet 0 = .ok (.aload_n 0, 1) := by decide +kernel
theorem dX12_meet_1 : decode cX12_meet 1 = .ok (.getfield 13, 3) := by decide +kernel
theorem dX12_meet_4 : decode cX12_meet 4 = .ok (.istore_n 1, 1) := by decide +kernel
theorem dX12_meet_5 : decode cX12_meet 5 = .ok (.aload_n 0, 1) := by decide +kernel
theorem dX12_meet_6 : decode cX12_meet 6 = .ok (.iconst 0, 1) := by decide +kernel
theorem dX12_meet_7 : decode cX12_meet 7 = .ok (.putfield 13, 3) := by decide +kernel
theorem dX12_meet_10 : decode cX12_meet 10 = .ok (.aload_n 0, 1) := by decide +kernel
theorem dX12_meet_11 : decode cX12_meet 11 = .ok (.getfield 138, 3) := by decide +kernel
theorem dX12_meet_14 : decode cX12_meet 14 = .ok (.ifCond .eq 23, 3) := by decide +kernel
theorem dX12_meet_17 : decode cX12_meet 17 = .ok (.iload_n 1, 1) := by decide +kernel
theorem dX12_meet_18 : decode cX12_meet 18 = .ok (.ifCond .le 19, 3) := by decide +kernel
theorem dX12_meet_21 : decode cX12_meet 21 = .ok (.iload_n 1, 1) := by decide +kernel
theorem dX12_meet_22 : decode cX12_meet 22 = .ok (.iconst 3, 1) := by decide +kernel
theorem dX12_meet_23 : decode cX12_meet 23 = .ok (.irem, 1) := by decide +kernel
theorem dX12_meet_24 : decode cX12_meet 24 = .ok (.ifCond .ne 13, 3) := by decide +kernel
theorem dX12_meet_27 : decode cX12_meet 27 = .ok (.iload_n 1, 1) := by decide +kernel
theorem dX12_meet_28 : decode cX12_meet 28 = .ok (.bipush 48, 2) := by decide +kernel
theorem dX12_meet_30 : decode cX12_meet 30 = .ok (.if_icmp .gt 7, 3) := by decide +kernel
theorem dX12_meet_33 : decode cX12_meet 33 = .ok (.iconst 1, 1) := by decide +kernel
theorem dX12_meet_34 : decode cX12_meet 34 = .ok (.goto 4, 3) := by decide +kernel
theorem dX12_meet_37 : decode cX12_meet 37 = .ok (.iconst 0, 1) := by decide +kernel
theorem dX12_meet_38 : decode cX12_meet 38 = .ok (.istore_n 2, 1) := by decide +kernel
theorem dX12_meet_39 : decode cX12_meet 39 = .ok (.iconst 0, 1) := by decide +kernel
theorem dX12_meet_40 : decode cX12_meet 40 = .ok (.istore_n 3, 1) := by decide +kernel
theorem dX12_meet_41 : decode cX12_meet 41 = .ok (.iload_n 3, 1) := by decide +kernel
theorem dX12_meet_42 : decode cX12_meet 42 = .ok (.iload_n 1, 1) := by decide +kernel
theorem dX12_meet_43 : decode cX12_meet 43 = .ok (.if_icmp .ge 56, 3) := by decide +kernel
theorem dX12_meet_46 : decode cX12_meet 46 = .ok (.iload_n 2, 1) := by decide +kernel
theorem dX12_meet_47 : decode cX12_meet 47 = .ok (.ifCond .eq 52, 3) := by decide +kernel
theorem dX12_meet_50 : decode cX12_meet 50 = .ok (.aload_n 0, 1) := by decide +kernel
theorem dX12_meet_51 : decode cX12_meet 51 = .ok (.getfield 7, 3) := by decide +kernel
theorem dX12_meet_54 : decode cX12_meet 54 = .ok (.iload_n 3, 1) := by decide +kernel
theorem dX12_meet_55 : decode cX12_meet 55 = .ok (.iaload, 1) := by decide +kernel
theorem dX12_meet_56 : decode cX12_meet 56 = .ok (.bipush 60, 2) := by decide +kernel
theorem dX12_meet_58 : decode cX12_meet 58 = .ok (.if_icmp .gt 33, 3) := by decide +kernel
theorem dX12_meet_61 : decode cX12_meet 61 = .ok (.aload_n 0, 1) := by decide +kernel
theorem dX12_meet_62 : decode cX12_meet 62 = .ok (.getfield 7, 3) := by decide +kernel
theorem dX12_meet_65 : decode cX12_meet 65 = .ok (.iload_n 3, 1) := by decide +kernel
theorem dX12_meet_66 : decode cX12_meet 66 = .ok (.iconst 1, 1) := by decide +kernel
theorem dX12_meet_67 : decode cX12_meet 67 = .ok (.iadd, 1) := by decide +kernel
theorem dX12_meet_68 : decode cX12_meet 68 = .ok (.iaload, 1) := by decide +kernel
theorem dX12_meet_69 : decode cX12_meet 69 = .ok (.iconst 1, 1) := by decide +kernel
theorem dX12_meet_70 : decode cX12_meet 70 = .ok (.if_icmp .gt 21, 3) := by decide +kernel
theorem dX12_meet_73 : decode cX12_meet 73 = .ok (.aload_n 0, 1) := by decide +kernel
theorem dX12_meet_74 : decode cX12_meet 74 = .ok (.getfield 7, 3) := by decide +kernel
theorem dX12_meet_77 : decode cX12_meet 77 = .ok (.iload_n 3, 1) := by decide +kernel
theorem dX12_meet_78 : decode cX12_meet 78 = .ok (.iconst 2, 1) := by decide +kernel
theorem dX12_meet_79 : decode cX12_meet 79 = .ok (.iadd, 1) := by decide +kernel
theorem dX12_meet_80 : decode cX12_meet 80 = .ok (.iaload, 1) := by decide +kernel
theorem dX12_meet_81 : decode cX12_meet 81 = .ok (.sipush 200, 3) := by decide +kernel
theorem dX12_meet_84 : decode cX12_meet 84 = .ok (.if_icmp .gt 7, 3) := by decide +kernel
theorem dX12_meet_87 : decode cX12_meet 87 = .ok (.iconst 1, 1) := by decide +kernel
theorem dX12_meet_88 : decode cX12_meet 88 = .ok (.goto 4, 3) := by decide +kernel
theorem dX12_meet_91 : decode cX12_meet 91 = .ok (.iconst 0, 1) := by decide +kernel
theorem dX12_meet_92 : decode cX12_meet 92 = .ok (.istore_n 2, 1) := by decide +kernel
theorem dX12_meet_93 : decode cX12_meet 93 = .ok (.iinc 3 3, 3) := by decide +kernel
theorem dX12_meet_96 : decode cX12_meet 96 = .ok (.goto (-55), 3) := by decide +kernel
theorem dX12_meet_99 : decode cX12_meet 99 = .ok (.iload_n 2, 1) := by decide +kernel
theorem dX12_meet_100 : decode cX12_meet 100 = .ok (.ifCond .ne 9, 3) := by decide +kernel
theorem dX12_meet_103 : decode cX12_meet 103 = .ok (.aload_n 0, 1) := by decide +kernel
theorem dX12_meet_104 : decode cX12_meet 104 = .ok (.iconst 5, 1) := by decide +kernel
theorem dX12_meet_105 : decode cX12_meet 105 = .ok (.invokevirtual 224, 3) := by decide +kernel
theorem dX12_meet_108 : decode cX12_meet 108 = .ok (.ireturn, 1) := by decide +kernel
theorem dX12_meet_109 : decode cX12_meet 109 = .ok (.aload_n 0, 1) := by decide +kernel
theorem dX12_meet_110 : decode cX12_meet 110 = .ok (.iload_n 1, 1) := by decide +kernel
theorem dX12_meet_111 : decode cX12_meet 111 = .ok (.iconst 3, 1) := by decide +kernel
theorem dX12_meet_112 : decode cX12_meet 112 = .ok (.idiv, 1) := by decide +kernel
theorem dX12_meet_113 : decode cX12_meet 113 = .ok (.putfield 209, 3) := by decide +kernel
theorem dX12_meet_116 : decode cX12_meet 116 = .ok (.iconst 0, 1) := by decide +kernel
theorem dX12_meet_117 : decode cX12_meet 117 = .ok (.istore_n 3, 1) := by decide +kernel
theorem dX12_meet_118 : decode cX12_meet 118 = .ok (.iload_n 3, 1) := by decide +kernel
theorem dX12_meet_119 : decode cX12_meet 119 = .ok (.aload_n 0, 1) := by decide +kernel
theorem dX12_meet_120 : decode cX12_meet 120 = .ok (.getfield 209, 3) := by decide +kernel
theorem dX12_meet_123 : decode cX12_meet 123 = .ok (.if_icmp .ge 55, 3) := by decide +kernel
theorem dX12_meet_126 : decode cX12_meet 126 = .ok (.aload_n 0, 1) := by decide +kernel
theorem dX12_meet_127 : decode cX12_meet 127 = .ok (.getfield 212, 3) := by decide +kernel
theorem dX12_meet_130 : decode cX12_meet 130 = .ok (.iload_n 3, 1) := by decide +kernel
theorem dX12_meet_131 : decode cX12_meet 131 = .ok (.aload_n 0, 1) := by decide +kernel
theorem dX12_meet_132 : decode cX12_meet 132 = .ok (.getfield 7, 3) := by decide +kernel
theorem dX12_meet_135 : decode cX12_meet 135 = .ok (.iconst 3, 1) := by decide +kernel
theorem dX12_meet_136 : decode cX12_meet 136 = .ok (.iload_n 3, 1) := by decide +kernel
theorem dX12_meet_137 : decode cX12_meet 137 = .ok (.imul, 1) := by decide +kernel
theorem dX12_meet_138 : decode cX12_meet 138 = .ok (.iaload, 1) := by decide +kernel
theorem dX12_meet_139 : decode cX12_meet 139 = .ok (.iastore, 1) := by decide +kernel
theorem dX12_meet_140 : decode cX12_meet 140 = .ok (.aload_n 0, 1) := by decide +kernel
theorem dX12_meet_141 : decode cX12_meet 141 = .ok (.getfield 215, 3) := by decide +kernel
theorem dX12_meet_144 : decode cX12_meet 144 = .ok (.iload_n 3, 1) := by decide +kernel
theorem dX12_meet_145 : decode cX12_meet 145 = .ok (.aload_n 0, 1) := by decide +kernel
theorem dX12_meet_146 : decode cX12_meet 146 = .ok (.getfield 7, 3) := by decide +kernel
theorem dX12_meet_149 : decode cX12_meet 149 = .ok (.iconst 3, 1) := by decide +kernel
theorem dX12_meet_150 : decode cX12_meet 150 = .ok (.iload_n 3, 1) := by decide +kernel
theorem dX12_meet_151 : decode cX12_meet 151 = .ok (.imul, 1) := by decide +kernel
theorem dX12_meet_152 : decode cX12_meet 152 = .ok (.iconst 1, 1) := by decide +kernel
theorem dX12_meet_153 : decode cX12_meet 153 = .ok (.iadd, 1) := by decide +kernel
theorem dX12_meet_154 : decode cX12_meet 154 = .ok (.iaload, 1) := by decide +kernel
theorem dX12_meet_155 : decode cX12_meet 155 = .ok (.iastore, 1) := by decide +kernel
theorem dX12_meet_156 : decode cX12_meet 156 = .ok (.aload_n 0, 1) := by decide +kernel
theorem dX12_meet_157 : decode cX12_meet 157 = .ok (.getfield 218, 3) := by decide +kernel
theorem dX12_meet_160 : decode cX12_meet 160 = .ok (.iload_n 3, 1) := by decide +kernel
theorem dX12_meet_161 : decode cX12_meet 161 = .ok (.aload_n 0, 1) := by decide +kernel
theorem dX12_meet_162 : decode cX12_meet 162 = .ok (.getfield 7, 3) := by decide +kernel
theorem dX12_meet_165 : decode cX12_meet 165 = .ok (.iconst 3, 1) := by decide +kernel
theorem dX12_meet_166 : decode cX12_meet 166 = .ok (.iload_n 3, 1) := by decide +kernel
theorem dX12_meet_167 : decode cX12_meet 167 = .ok (.imul, 1) := by decide +kernel
theorem dX12_meet_168 : decode cX12_meet 168 = .ok (.iconst 2, 1) := by decide +kernel
theorem dX12_meet_169 : decode cX12_meet 169 = .ok (.iadd, 1) := by decide +kernel
theorem dX12_meet_170 : decode cX12_meet 170 = .ok (.iaload, 1) := by decide +kernel
theorem dX12_meet_171 : decode cX12_meet 171 = .ok (.iastore, 1) := by decide +kernel
theorem dX12_meet_172 : decode cX12_meet 172 = .ok (.iinc 3 1, 3) := by decide +kernel
theorem dX12_meet_175 : decode cX12_meet 175 = .ok (.goto (-57), 3) := by decide +kernel
theorem dX12_meet_178 : decode cX12_meet 178 = .ok (.aload_n 0, 1) := by decide +kernel
theorem dX12_meet_179 : decode cX12_meet 179 = .ok (.getfield 209, 3) := by decide +kernel
theorem dX12_meet_182 : decode cX12_meet 182 = .ok (.ireturn, 1) := by decide +kernel
theorem dX12_canBe_0 : decode cX12_canBe 0 = .ok (.aload_n 0, 1) := by decide +kernel
theorem dX12_canBe_1 : decode cX12_canBe 1 = .ok (.iconst 1, 1) := by decide +kernel
theorem dX12_canBe_2 : decode cX12_canBe 2 = .ok (.iconst 0, 1) := by decide +kernel
theorem dX12_canBe_3 : decode cX12_canBe 3 = .ok (.invokevirtual 419, 3) := by decide +kernel
theorem dX12_canBe_6 : decode cX12_canBe 6 = .ok (.aload_n 0, 1) := by decide +kernel
theorem dX12_canBe_7 : decode cX12_canBe 7 = .ok (.getfield 176, 3) := by decide +kernel
theorem dX12_canBe_10 : decode cX12_canBe 10 = .ok (.iload_n 1, 1) := by decide +kernel
theorem dX12_canBe_11 : decode cX12_canBe 11 = .ok (.iload_n 2, 1) := by decide +kernel
theorem dX12_canBe_12 : decode cX12_canBe 12 = .ok (.iastore, 1) := by decide +kernel
theorem dX12_canBe_13 : decode cX12_canBe 13 = .ok (.iconst 0, 1) := by decide +kernel
theorem dX12_canBe_14 : decode cX12_canBe 14 = .ok (.istore_n 3, 1) := by decide +kernel
theorem dX12_canBe_15 : decode cX12_canBe 15 = .ok (.iconst 0, 1) := by decide +kernel
theorem dX12_canBe_16 : decode cX12_canBe 16 = .ok (.istore 4, 2) := by decide +kernel
theorem dX12_canBe_18 : decode cX12_canBe 18 = .ok (.aload_n 0, 1) := by decide +kernel
theorem dX12_canBe_19 : decode cX12_canBe 19 = .ok (.iload 4, 2) := by decide +kernel
theorem dX12_canBe_21 : decode cX12_canBe 21 = .ok (.iconst 0, 1) := by decide +kernel
theorem dX12_canBe_22 : decode cX12_canBe 22 = .ok (.bipush 60, 2) := by decide +kernel
theorem dX12_canBe_24 : decode cX12_canBe 24 = .ok (.invokevirtual 585, 3) := by decide +kernel
theorem dX12_canBe_27 : decode cX12_canBe 27 = .ok (.ifCond .eq 126, 3) := by decide +kernel
theorem dX12_canBe_30 : decode cX12_canBe 30 = .ok (.aload_n 0, 1) := by decide +kernel
theorem dX12_canBe_31 : decode cX12_canBe 31 = .ok (.getfield 221, 3) := by decide +kernel
theorem dX12_canBe_34 : decode cX12_canBe 34 = .ok (.bipush 122, 2) := by decide +kernel
theorem dX12_canBe_36 : decode cX12_canBe 36 = .ok (.iload_n 2, 1) := by decide +kernel
theorem dX12_canBe_37 : decode cX12_canBe 37 = .ok (.imul, 1) := by decide +kernel
theorem dX12_canBe_38 : decode cX12_canBe 38 = .ok (.iconst 2, 1) := by decide +kernel
theorem dX12_canBe_39 : decode cX12_canBe 39 = .ok (.iload 4, 2) := by decide +kernel
theorem dX12_canBe_41 : decode cX12_canBe 41 = .ok (.imul, 1) := by decide +kernel
theorem dX12_canBe_42 : decode cX12_canBe 42 = .ok (.iadd, 1) := by decide +kernel
theorem dX12_canBe_43 : decode cX12_canBe 43 = .ok (.aload_n 0, 1) := by decide +kernel
theorem dX12_canBe_44 : decode cX12_canBe 44 = .ok (.iconst 1, 1) := by decide +kernel
theorem dX12_canBe_45 : decode cX12_canBe 45 = .ok (.iconst 2, 1) := by decide +kernel
theorem dX12_canBe_46 : decode cX12_canBe 46 = .ok (.invokevirtual 402, 3) := by decide +kernel
theorem dX12_canBe_49 : decode cX12_canBe 49 = .ok (.iastore, 1) := by decide +kernel
theorem dX12_canBe_50 : decode cX12_canBe 50 = .ok (.aload_n 0, 1) := by decide +kernel
theorem dX12_canBe_51 : decode cX12_canBe 51 = .ok (.getfield 221, 3) := by decide +kernel
theorem dX12_canBe_54 : decode cX12_canBe 54 = .ok (.bipush 122, 2) := by decide +kernel
theorem dX12_canBe_56 : decode cX12_canBe 56 = .ok (.iload_n 2, 1) := by decide +kernel
theorem dX12_canBe_57 : decode cX12_canBe 57 = .ok (.imul, 1) := by decide +kernel
theorem dX12_canBe_58 : decode cX12_canBe 58 = .ok (.iconst 2, 1) := by decide +kernel
theorem dX12_canBe_59 : decode cX12_canBe 59 = .ok (.iload 4, 2) := by decide +kernel
theorem dX12_canBe_61 : decode cX12_canBe 61 = .ok (.imul, 1) := by decide +kernel
theorem dX12_canBe_62 : decode cX12_canBe 62 = .ok (.iadd, 1) := by decide +kernel
theorem dX12_canBe_63 : decode cX12_canBe 63 = .ok (.iconst 1, 1) := by decide +kernel
theorem dX12_canBe_64 : decode cX12_canBe 64 = .ok (.iadd, 1) := by decide +kernel
theorem dX12_canBe_65 : decode cX12_canBe 65 = .ok (.aload_n 0, 1) := by decide +kernel
theorem dX12_canBe_66 : decode cX12_canBe 66 = .ok (.iconst 1, 1) := by decide +kernel
theorem dX12_canBe_67 : decode cX12_canBe 67 = .ok (.iconst 4, 1) := by decide +kernel
theorem dX12_canBe_68 : decode cX12_canBe 68 = .ok (.invokevirtual 402, 3) := by decide +kernel
theorem dX12_canBe_71 : decode cX12_canBe 71 = .ok (.iastore, 1) := by decide +kernel
theorem dX12_canBe_72 : decode cX12_canBe 72 = .ok (.iconst 0, 1) := by decide +kernel
theorem dX12_canBe_73 : decode cX12_canBe 73 = .ok (.istore 5, 2) := by decide +kernel
theorem dX12_canBe_75 : decode cX12_canBe 75 = .ok (.iload 5, 2) := by decide +kernel
theorem dX12_canBe_77 : decode cX12_canBe 77 = .ok (.aload_n 0, 1) := by decide +kernel
theorem dX12_canBe_78 : decode cX12_canBe 78 = .ok (.getfield 209, 3) := by decide +kernel
theorem dX12_canBe_81 : decode cX12_canBe 81 = .ok (.if_icmp .ge 61, 3) := by decide +kernel
theorem dX12_canBe_84 : decode cX12_canBe 84 = .ok (.iload_n 3, 1) := by decide +kernel
theorem dX12_canBe_85 : decode cX12_canBe 85 = .ok (.aload_n 0, 1) := by decide +kernel
theorem dX12_canBe_86 : decode cX12_canBe 86 = .ok (.getfield 212, 3) := by decide +kernel
theorem dX12_canBe_89 : decode cX12_canBe 89 = .ok (.iload 5, 2) := by decide +kernel
theorem dX12_canBe_91 : decode cX12_canBe 91 = .ok (.iaload, 1) := by decide +kernel
theorem dX12_canBe_92 : decode cX12_canBe 92 = .ok (.iload 4, 2) := by decide +kernel
theorem dX12_canBe_94 : decode cX12_canBe 94 = .ok (.if_icmp .ne 39, 3) := by decide +kernel
theorem dX12_canBe_97 : decode cX12_canBe 97 = .ok (.aload_n 0, 1) := by decide +kernel
theorem dX12_canBe_98 : decode cX12_canBe 98 = .ok (.getfield 221, 3) := by decide +kernel
theorem dX12_canBe_101 : decode cX12_canBe 101 = .ok (.bipush 122, 2) := by decide +kernel
theorem dX12_canBe_103 : decode cX12_canBe 103 = .ok (.iload_n 2, 1) := by decide +kernel
theorem dX12_canBe_104 : decode cX12_canBe 104 = .ok (.imul, 1) := by decide +kernel
theorem dX12_canBe_105 : decode cX12_canBe 105 = .ok (.iconst 2, 1) := by decide +kernel
theorem dX12_canBe_106 : decode cX12_canBe 106 = .ok (.iload 4, 2) := by decide +kernel
theorem dX12_canBe_108 : decode cX12_canBe 108 = .ok (.imul, 1) := by decide +kernel
theorem dX12_canBe_109 : decode cX12_canBe 109 = .ok (.iadd, 1) := by decide +kernel
theorem dX12_canBe_110 : decode cX12_canBe 110 = .ok (.aload_n 0, 1) := by decide +kernel
theorem dX12_canBe_111 : decode cX12_canBe 111 = .ok (.getfield 215, 3) := by decide +kernel
theorem dX12_canBe_114 : decode cX12_canBe 114 = .ok (.iload 5, 2) := by decide +kernel
theorem dX12_canBe_116 : decode cX12_canBe 116 = .ok (.iaload, 1) := by decide +kernel
theorem dX12_canBe_117 : decode cX12_canBe 117 = .ok (.iadd, 1) := by decide +kernel
theorem dX12_canBe_118 : decode cX12_canBe 118 = .ok (.iaload, 1) := by decide +kernel
theorem dX12_canBe_119 : decode cX12_canBe 119 = .ok (.aload_n 0, 1) := by decide +kernel
theorem dX12_canBe_120 : decode cX12_canBe 120 = .ok (.getfield 218, 3) := by decide +kernel
theorem dX12_canBe_123 : decode cX12_canBe 123 = .ok (.iload 5, 2) := by decide +kernel
theorem dX12_canBe_125 : decode cX12_canBe 125 = .ok (.iaload, 1) := by decide +kernel
theorem dX12_canBe_126 : decode cX12_canBe 126 = .ok (.if_icmp .ne 7, 3) := by decide +kernel
theorem dX12_canBe_129 : decode cX12_canBe 129 = .ok (.iconst 1, 1) := by decide +kernel
theorem dX12_canBe_130 : decode cX12_canBe 130 = .ok (.goto 4, 3) := by decide +kernel
theorem dX12_canBe_133 : decode cX12_canBe 133 = .ok (.iconst 0, 1) := by decide +kernel
theorem dX12_canBe_134 : decode cX12_canBe 134 = .ok (.iadd, 1) := by decide +kernel
theorem dX12_canBe_135 : decode cX12_canBe 135 = .ok (.istore_n 3, 1) := by decide +kernel
theorem dX12_canBe_136 : decode cX12_canBe 136 = .ok (.iinc 5 1, 3) := by decide +kernel
theorem dX12_canBe_139 : decode cX12_canBe 139 = .ok (.goto (-64), 3) := by decide +kernel
theorem dX12_canBe_142 : decode cX12_canBe 142 = .ok (.aload_n 0, 1) := by decide +kernel
theorem dX12_canBe_143 : decode cX12_canBe 143 = .ok (.iconst 1, 1) := by decide +kernel
theorem dX12_canBe_144 : decode cX12_canBe 144 = .ok (.invokevirtual 588, 3) := by decide +kernel
theorem dX12_canBe_147 : decode cX12_canBe 147 = .ok (.iinc 4 1, 3) := by decide +kernel
theorem dX12_canBe_150 : decode cX12_canBe 150 = .ok (.goto (-132), 3) := by decide +kernel
theorem dX12_canBe_153 : decode cX12_canBe 153 = .ok (.aload_n 0, 1) := by decide +kernel
theorem dX12_canBe_154 : decode cX12_canBe 154 = .ok (.getfield 176, 3) := by decide +kernel
theorem dX12_canBe_157 : decode cX12_canBe 157 = .ok (.iload_n 1, 1) := by decide +kernel
theorem dX12_canBe_158 : decode cX12_canBe 158 = .ok (.aload_n 0, 1) := by decide +kernel
theorem dX12_canBe_159 : decode cX12_canBe 159 = .ok (.getfield 69, 3) := by decide +kernel
theorem dX12_canBe_162 : decode cX12_canBe 162 = .ok (.iconst 4, 1) := by decide +kernel
theorem dX12_canBe_163 : decode cX12_canBe 163 = .ok (.aload_n 0, 1) := by decide +kernel
theorem dX12_canBe_164 : decode cX12_canBe 164 = .ok (.getfield 51, 3) := by decide +kernel
theorem dX12_canBe_167 : decode cX12_canBe 167 = .ok (.imul, 1) := by decide +kernel
theorem dX12_canBe_168 : decode cX12_canBe 168 = .ok (.iload_n 1, 1) := by decide +kernel
theorem dX12_canBe_169 : decode cX12_canBe 169 = .ok (.iadd, 1) := by decide +kernel
theorem dX12_canBe_170 : decode cX12_canBe 170 = .ok (.iaload, 1) := by decide +kernel
theorem dX12_canBe_171 : decode cX12_canBe 171 = .ok (.iastore, 1) := by decide +kernel
theorem dX12_canBe_172 : decode cX12_canBe 172 = .ok (.iload_n 3, 1) := by decide +kernel
theorem dX12_canBe_173 : decode cX12_canBe 173 = .ok (.aload_n 0, 1) := by decide +kernel
theorem dX12_canBe_174 : decode cX12_canBe 174 = .ok (.getfield 209, 3) := by decide +kernel
theorem dX12_canBe_177 : decode cX12_canBe 177 = .ok (.if_icmp .ne 7, 3) := by decide +kernel
theorem dX12_canBe_180 : decode cX12_canBe 180 = .ok (.iconst 1, 1) := by decide +kernel
theorem dX12_canBe_181 : decode cX12_canBe 181 = .ok (.goto 4, 3) := by decide +kernel
theorem dX12_canBe_184 : decode cX12_canBe 184 = .ok (.iconst 0, 1) := by decide +kernel
theorem dX12_canBe_185 : decode cX12_canBe 185 = .ok (.ireturn, 1) := by decide +kernel
theorem dX12_delayBits_0 : decode cX12_delayBits 0 = .ok (.iconst 0, 1) := by decide +kernel
theorem dX12_delayBits_1 : decode cX12_delayBits 1 = .ok (.istore_n 2, 1) := by decide +kernel
theorem dX12_delayBits_2 : decode cX12_delayBits 2 = .ok (.iconst 1, 1) := by decide +kernel
theorem dX12_delayBits_3 : decode cX12_delayBits 3 = .ok (.istore_n 3, 1) := by decide +kernel
theorem dX12_delayBits_4 : decode cX12_delayBits 4 = .ok (.iload_n 3, 1) := by decide +kernel
theorem dX12_delayBits_5 : decode cX12_delayBits 5 = .ok (.bipush 9, 2) := by decide +kernel
theorem dX12_delayBits_7 : decode cX12_delayBits 7 = .ok (.if_icmp .gt 28, 3) := by decide +kernel
theorem dX12_delayBits_10 : decode cX12_delayBits 10 = .ok (.iload_n 2, 1) := by decide +kernel
theorem dX12_delayBits_11 : decode cX12_delayBits 11 = .ok (.aload_n 0, 1) := by decide +kernel
theorem dX12_delayBits_12 : decode cX12_delayBits 12 = .ok (.iload_n 1, 1) := by decide +kernel
theorem dX12_delayBits_13 : decode cX12_delayBits 13 = .ok (.iload_n 3, 1) := by decide +kernel
theorem dX12_delayBits_14 : decode cX12_delayBits 14 = .ok (.invokevirtual 597, 3) := by decide +kernel
theorem dX12_delayBits_17 : decode cX12_delayBits 17 = .ok (.ifCond .eq 9, 3) := by decide +kernel
theorem dX12_delayBits_20 : decode cX12_delayBits 20 = .ok (.iconst 1, 1) := by decide +kernel
theorem dX12_delayBits_21 : decode cX12_delayBits 21 = .ok (.iload_n 3, 1) := by decide +kernel
theorem dX12_delayBits_22 : decode cX12_delayBits 22 = .ok (.ishl, 1) := by decide +kernel
theorem dX12_delayBits_23 : decode cX12_delayBits 23 = .ok (.goto 4, 3) := by decide +kernel
theorem dX12_delayBits_26 : decode cX12_delayBits 26 = .ok (.iconst 0, 1) := by decide +kernel
theorem dX12_delayBits_27 : decode cX12_delayBits 27 = .ok (.ior, 1) := by decide +kernel
theorem dX12_delayBits_28 : decode cX12_delayBits 28 = .ok (.istore_n 2, 1) := by decide +kernel
theorem dX12_delayBits_29 : decode cX12_delayBits 29 = .ok (.iinc 3 1, 3) := by decide +kernel
theorem dX12_delayBits_32 : decode cX12_delayBits 32 = .ok (.goto (-28), 3) := by decide +kernel
theorem dX12_delayBits_35 : decode cX12_delayBits 35 = .ok (.iload_n 2, 1) := by decide +kernel
theorem dX12_delayBits_36 : decode cX12_delayBits 36 = .ok (.ireturn, 1) := by decide +kernel
theorem dX12_delays_0 : decode cX12_delays 0 = .ok (.aload_n 0, 1) := by decide +kernel
theorem dX12_delays_1 : decode cX12_delays 1 = .ok (.iload_n 1, 1) := by decide +kernel
theorem dX12_delays_2 : decode cX12_delays 2 = .ok (.invokevirtual 573, 3) := by decide +kernel
theorem dX12_delays_5 : decode cX12_delays 5 = .ok (.ifCond .eq 11, 3) := by decide +kernel
theorem dX12_delays_8 : decode cX12_delays 8 = .ok (.aload_n 0, 1) := by decide +kernel
theorem dX12_delays_9 : decode cX12_delays 9 = .ok (.iload_n 1, 1) := by decide +kernel
theorem dX12_delays_10 : decode cX12_delays 10 = .ok (.invokevirtual 600, 3) := by decide +kernel
theorem dX12_delays_13 : decode cX12_delays 13 = .ok (.goto 4, 3) := by decide +kernel
theorem dX12_delays_16 : decode cX12_delays 16 = .ok (.iconst (-1), 1) := by decide +kernel
theorem dX12_delays_17 : decode cX12_delays 17 = .ok (.ireturn, 1) := by decide +kernel
theorem dX12_mostBy_0 : decode cX12_mostBy 0 = .ok (.iconst 0, 1) := by decide +kernel
theorem dX12_mostBy_1 : decode cX12_mostBy 1 = .ok (.istore 4, 2) := by decide +kernel
theorem dX12_mostBy_3 : decode cX12_mostBy 3 = .ok (.iconst 1, 1) := by decide +kernel
theorem dX12_mostBy_4 : decode cX12_mostBy 4 = .ok (.istore 5, 2) := by decide +kernel
theorem dX12_mostBy_6 : decode cX12_mostBy 6 = .ok (.iload 5, 2) := by decide +kernel
theorem dX12_mostBy_8 : decode cX12_mostBy 8 = .ok (.bipush 9, 2) := by decide +kernel
theorem dX12_mostBy_10 : decode cX12_mostBy 10 = .ok (.if_icmp .gt 107, 3) := by decide +kernel
theorem dX12_mostBy_13 : decode cX12_mostBy 13 = .ok (.iconst 0, 1) := by decide +kernel
theorem dX12_mostBy_14 : decode cX12_mostBy 14 = .ok (.istore 6, 2) := by decide +kernel
theorem dX12_mostBy_16 : decode cX12_mostBy 16 = .ok (.iconst 1, 1) := by decide +kernel
theorem dX12_mostBy_17 : decode cX12_mostBy 17 = .ok (.istore 7, 2) := by decide +kernel
theorem dX12_mostBy_19 : decode cX12_mostBy 19 = .ok (.iload 7, 2) := by decide +kernel
theorem dX12_mostBy_21 : decode cX12_mostBy 21 = .ok (.bipush 9, 2) := by decide +kernel
theorem dX12_mostBy_23 : decode cX12_mostBy 23 = .ok (.if_icmp .gt 72, 3) := by decide +kernel
theorem dX12_mostBy_26 : decode cX12_mostBy 26 = .ok (.iload 6, 2) := by decide +kernel
theorem dX12_mostBy_28 : decode cX12_mostBy 28 = .ok (.iload_n 1, 1) := by decide +kernel
theorem dX12_mostBy_29 : decode cX12_mostBy 29 = .ok (.iload 5, 2) := by decide +kernel
theorem dX12_mostBy_31 : decode cX12_mostBy 31 = .ok (.invokestatic 339, 3) := by decide +kernel
theorem dX12_mostBy_34 : decode cX12_mostBy 34 = .ok (.ifCond .eq 51, 3) := by decide +kernel
theorem dX12_mostBy_37 : decode cX12_mostBy 37 = .ok (.iload_n 1, 1) := by decide +kernel
theorem dX12_mostBy_38 : decode cX12_mostBy 38 = .ok (.iload 7, 2) := by decide +kernel
theorem dX12_mostBy_40 : decode cX12_mostBy 40 = .ok (.invokestatic 339, 3) := by decide +kernel
theorem dX12_mostBy_43 : decode cX12_mostBy 43 = .ok (.ifCond .eq 42, 3) := by decide +kernel
theorem dX12_mostBy_46 : decode cX12_mostBy 46 = .ok (.aload_n 0, 1) := by decide +kernel
theorem dX12_mostBy_47 : decode cX12_mostBy 47 = .ok (.getfield 221, 3) := by decide +kernel
theorem dX12_mostBy_50 : decode cX12_mostBy 50 = .ok (.bipush 122, 2) := by decide +kernel
theorem dX12_mostBy_52 : decode cX12_mostBy 52 = .ok (.iload 5, 2) := by decide +kernel
theorem dX12_mostBy_54 : decode cX12_mostBy 54 = .ok (.imul, 1) := by decide +kernel
theorem dX12_mostBy_55 : decode cX12_mostBy 55 = .ok (.iconst 2, 1) := by decide +kernel
theorem dX12_mostBy_56 : decode cX12_mostBy 56 = .ok (.iload_n 2, 1) := by decide +kernel
theorem dX12_mostBy_57 : decode cX12_mostBy 57 = .ok (.imul, 1) := by decide +kernel
theorem dX12_mostBy_58 : decode cX12_mostBy 58 = .ok (.iadd, 1) := by decide +kernel
theorem dX12_mostBy_59 : decode cX12_mostBy 59 = .ok (.iload_n 3, 1) := by decide +kernel
theorem dX12_mostBy_60 : decode cX12_mostBy 60 = .ok (.iadd, 1) := by decide +kernel
theorem dX12_mostBy_61 : decode cX12_mostBy 61 = .ok (.iaload, 1) := by decide +kernel
theorem dX12_mostBy_62 : decode cX12_mostBy 62 = .ok (.aload_n 0, 1) := by decide +kernel
theorem dX12_mostBy_63 : decode cX12_mostBy 63 = .ok (.getfield 221, 3) := by decide +kernel
theorem dX12_mostBy_66 : decode cX12_mostBy 66 = .ok (.bipush 122, 2) := by decide +kernel
theorem dX12_mostBy_68 : decode cX12_mostBy 68 = .ok (.iload 7, 2) := by decide +kernel
theorem dX12_mostBy_70 : decode cX12_mostBy 70 = .ok (.imul, 1) := by decide +kernel
theorem dX12_mostBy_71 : decode cX12_mostBy 71 = .ok (.iconst 2, 1) := by decide +kernel
theorem dX12_mostBy_72 : decode cX12_mostBy 72 = .ok (.iload_n 2, 1) := by decide +kernel
theorem dX12_mostBy_73 : decode cX12_mostBy 73 = .ok (.imul, 1) := by decide +kernel
theorem dX12_mostBy_74 : decode cX12_mostBy 74 = .ok (.iadd, 1) := by decide +kernel
theorem dX12_mostBy_75 : decode cX12_mostBy 75 = .ok (.iload_n 3, 1) := by decide +kernel
theorem dX12_mostBy_76 : decode cX12_mostBy 76 = .ok (.iadd, 1) := by decide +kernel
theorem dX12_mostBy_77 : decode cX12_mostBy 77 = .ok (.iaload, 1) := by decide +kernel
theorem dX12_mostBy_78 : decode cX12_mostBy 78 = .ok (.if_icmp .ne 7, 3) := by decide +kernel
theorem dX12_mostBy_81 : decode cX12_mostBy 81 = .ok (.iconst 1, 1) := by decide +kernel
theorem dX12_mostBy_82 : decode cX12_mostBy 82 = .ok (.goto 4, 3) := by decide +kernel
theorem dX12_mostBy_85 : decode cX12_mostBy 85 = .ok (.iconst 0, 1) := by decide +kernel
theorem dX12_mostBy_86 : decode cX12_mostBy 86 = .ok (.iadd, 1) := by decide +kernel
theorem dX12_mostBy_87 : decode cX12_mostBy 87 = .ok (.istore 6, 2) := by decide +kernel
theorem dX12_mostBy_89 : decode cX12_mostBy 89 = .ok (.iinc 7 1, 3) := by decide +kernel
theorem dX12_mostBy_92 : decode cX12_mostBy 92 = .ok (.goto (-73), 3) := by decide +kernel
theorem dX12_mostBy_95 : decode cX12_mostBy 95 = .ok (.iload 6, 2) := by decide +kernel
theorem dX12_mostBy_97 : decode cX12_mostBy 97 = .ok (.iload 4, 2) := by decide +kernel
theorem dX12_mostBy_99 : decode cX12_mostBy 99 = .ok (.if_icmp .le 8, 3) := by decide +kernel
theorem dX12_mostBy_102 : decode cX12_mostBy 102 = .ok (.iload 6, 2) := by decide +kernel
theorem dX12_mostBy_104 : decode cX12_mostBy 104 = .ok (.goto 5, 3) := by decide +kernel
theorem dX12_mostBy_107 : decode cX12_mostBy 107 = .ok (.iload 4, 2) := by decide +kernel
theorem dX12_mostBy_109 : decode cX12_mostBy 109 = .ok (.istore 4, 2) := by decide +kernel
theorem dX12_mostBy_111 : decode cX12_mostBy 111 = .ok (.iinc 5 1, 3) := by decide +kernel
theorem dX12_mostBy_114 : decode cX12_mostBy 114 = .ok (.goto (-108), 3) := by decide +kernel
theorem dX12_mostBy_117 : decode cX12_mostBy 117 = .ok (.iload 4, 2) := by decide +kernel
theorem dX12_mostBy_119 : decode cX12_mostBy 119 = .ok (.ireturn, 1) := by decide +kernel
theorem dX12_tells_0 : decode cX12_tells 0 = .ok (.aload_n 0, 1) := by decide +kernel
theorem dX12_tells_1 : decode cX12_tells 1 = .ok (.iload_n 1, 1) := by decide +kernel
theorem dX12_tells_2 : decode cX12_tells 2 = .ok (.invokevirtual 573, 3) := by decide +kernel
theorem dX12_tells_5 : decode cX12_tells 5 = .ok (.ifCond .eq 12, 3) := by decide +kernel
theorem dX12_tells_8 : decode cX12_tells 8 = .ok (.iload_n 2, 1) := by decide +kernel
theorem dX12_tells_9 : decode cX12_tells 9 = .ok (.iconst 0, 1) := by decide +kernel
theorem dX12_tells_10 : decode cX12_tells 10 = .ok (.iconst 2, 1) := by decide +kernel
theorem dX12_tells_11 : decode cX12_tells 11 = .ok (.invokestatic 310, 3) := by decide +kernel
theorem dX12_tells_14 : decode cX12_tells 14 = .ok (.ifCond .ne 5, 3) := by decide +kernel
theorem dX12_tells_17 : decode cX12_tells 17 = .ok (.iconst (-1), 1) := by decide +kernel
theorem dX12_tells_18 : decode cX12_tells 18 = .ok (.ireturn, 1) := by decide +kernel
theorem dX12_tells_19 : decode cX12_tells 19 = .ok (.aload_n 0, 1) := by decide +kernel
theorem dX12_tells_20 : decode cX12_tells 20 = .ok (.iload_n 1, 1) := by decide +kernel
theorem dX12_tells_21 : decode cX12_tells 21 = .ok (.invokevirtual 600, 3) := by decide +kernel
theorem dX12_tells_24 : decode cX12_tells 24 = .ok (.istore_n 3, 1) := by decide +kernel
theorem dX12_tells_25 : decode cX12_tells 25 = .ok (.iconst (-1), 1) := by decide +kernel
theorem dX12_tells_26 : decode cX12_tells 26 = .ok (.istore 4, 2) := by decide +kernel
theorem dX12_tells_28 : decode cX12_tells 28 = .ok (.ldc_w 603, 3) := by decide +kernel
theorem dX12_tells_31 : decode cX12_tells 31 = .ok (.istore 5, 2) := by decide +kernel
theorem dX12_tells_33 : decode cX12_tells 33 = .ok (.iconst 1, 1) := by decide +kernel
theorem dX12_tells_34 : decode cX12_tells 34 = .ok (.istore 6, 2) := by decide +kernel
theorem dX12_tells_36 : decode cX12_tells 36 = .ok (.aload_n 0, 1) := by decide +kernel
theorem dX12_tells_37 : decode cX12_tells 37 = .ok (.iload 6, 2) := by decide +kernel
theorem dX12_tells_39 : decode cX12_tells 39 = .ok (.iconst 1, 1) := by decide +kernel
theorem dX12_tells_40 : decode cX12_tells 40 = .ok (.bipush 60, 2) := by decide +kernel
theorem dX12_tells_42 : decode cX12_tells 42 = .ok (.invokevirtual 585, 3) := by decide +kernel
theorem dX12_tells_45 : decode cX12_tells 45 = .ok (.ifCond .eq 62, 3) := by decide +kernel
theorem dX12_tells_48 : decode cX12_tells 48 = .ok (.iload_n 3, 1) := by decide +kernel
theorem dX12_tells_49 : decode cX12_tells 49 = .ok (.ifCond .eq 58, 3) := by decide +kernel
theorem dX12_tells_52 : decode cX12_tells 52 = .ok (.iconst 0, 1) := by decide +kernel
theorem dX12_tells_53 : decode cX12_tells 53 = .ok (.istore 7, 2) := by decide +kernel
theorem dX12_tells_55 : decode cX12_tells 55 = .ok (.iload 7, 2) := by decide +kernel
theorem dX12_tells_57 : decode cX12_tells 57 = .ok (.iconst 2, 1) := by decide +kernel
theorem dX12_tells_58 : decode cX12_tells 58 = .ok (.if_icmp .ge 43, 3) := by decide +kernel
theorem dX12_tells_61 : decode cX12_tells 61 = .ok (.aload_n 0, 1) := by decide +kernel
theorem dX12_tells_62 : decode cX12_tells 62 = .ok (.iload_n 3, 1) := by decide +kernel
theorem dX12_tells_63 : decode cX12_tells 63 = .ok (.iload 6, 2) := by decide +kernel
theorem dX12_tells_65 : decode cX12_tells 65 = .ok (.iload 7, 2) := by decide +kernel
theorem dX12_tells_67 : decode cX12_tells 67 = .ok (.invokevirtual 604, 3) := by decide +kernel
theorem dX12_tells_70 : decode cX12_tells 70 = .ok (.istore 8, 2) := by decide +kernel
theorem dX12_tells_72 : decode cX12_tells 72 = .ok (.iload 8, 2) := by decide +kernel
theorem dX12_tells_74 : decode cX12_tells 74 = .ok (.iload 5, 2) := by decide +kernel
theorem dX12_tells_76 : decode cX12_tells 76 = .ok (.if_icmp .lt 6, 3) := by decide +kernel
theorem dX12_tells_79 : decode cX12_tells 79 = .ok (.goto 16, 3) := by decide +kernel
theorem dX12_tells_82 : decode cX12_tells 82 = .ok (.iload 8, 2) := by decide +kernel
theorem dX12_tells_84 : decode cX12_tells 84 = .ok (.istore 5, 2) := by decide +kernel
theorem dX12_tells_86 : decode cX12_tells 86 = .ok (.iconst 2, 1) := by decide +kernel
theorem dX12_tells_87 : decode cX12_tells 87 = .ok (.iload 6, 2) := by decide +kernel
theorem dX12_tells_89 : decode cX12_tells 89 = .ok (.imul, 1) := by decide +kernel
theorem dX12_tells_90 : decode cX12_tells 90 = .ok (.iload 7, 2) := by decide +kernel
theorem dX12_tells_92 : decode cX12_tells 92 = .ok (.iadd, 1) := by decide +kernel
theorem dX12_tells_93 : decode cX12_tells 93 = .ok (.istore 4, 2) := by decide +kernel
theorem dX12_tells_95 : decode cX12_tells 95 = .ok (.iinc 7 1, 3) := by decide +kernel
theorem dX12_tells_98 : decode cX12_tells 98 = .ok (.goto (-43), 3) := by decide +kernel
theorem dX12_tells_101 : decode cX12_tells 101 = .ok (.iinc 6 1, 3) := by decide +kernel
theorem dX12_tells_104 : decode cX12_tells 104 = .ok (.goto (-68), 3) := by decide +kernel
theorem dX12_tells_107 : decode cX12_tells 107 = .ok (.iload 4, 2) := by decide +kernel
theorem dX12_tells_109 : decode cX12_tells 109 = .ok (.iconst (-1), 1) := by decide +kernel
theorem dX12_tells_110 : decode cX12_tells 110 = .ok (.if_icmp .ne 7, 3) := by decide +kernel
theorem dX12_tells_113 : decode cX12_tells 113 = .ok (.iconst (-1), 1) := by decide +kernel
theorem dX12_tells_114 : decode cX12_tells 114 = .ok (.goto 28, 3) := by decide +kernel
theorem dX12_tells_117 : decode cX12_tells 117 = .ok (.iload_n 2, 1) := by decide +kernel
theorem dX12_tells_118 : decode cX12_tells 118 = .ok (.ifCond .ne 10, 3) := by decide +kernel
theorem dX12_tells_121 : decode cX12_tells 121 = .ok (.iload 4, 2) := by decide +kernel
theorem dX12_tells_123 : decode cX12_tells 123 = .ok (.iconst 2, 1) := by decide +kernel
theorem dX12_tells_124 : decode cX12_tells 124 = .ok (.idiv, 1) := by decide +kernel
theorem dX12_tells_125 : decode cX12_tells 125 = .ok (.goto 17, 3) := by decide +kernel
theorem dX12_tells_128 : decode cX12_tells 128 = .ok (.iload_n 2, 1) := by decide +kernel
theorem dX12_tells_129 : decode cX12_tells 129 = .ok (.iconst 1, 1) := by decide +kernel
theorem dX12_tells_130 : decode cX12_tells 130 = .ok (.if_icmp .ne 10, 3) := by decide +kernel
theorem dX12_tells_133 : decode cX12_tells 133 = .ok (.iload 4, 2) := by decide +kernel
theorem dX12_tells_135 : decode cX12_tells 135 = .ok (.iconst 2, 1) := by decide +kernel
theorem dX12_tells_136 : decode cX12_tells 136 = .ok (.irem, 1) := by decide +kernel
theorem dX12_tells_137 : decode cX12_tells 137 = .ok (.goto 5, 3) := by decide +kernel
theorem dX12_tells_140 : decode cX12_tells 140 = .ok (.iload 5, 2) := by decide +kernel
theorem dX12_tells_142 : decode cX12_tells 142 = .ok (.ireturn, 1) := by decide +kernel
theorem dX12_ticks_0 : decode cX12_ticks 0 = .ok (.aload_n 0, 1) := by decide +kernel
theorem dX12_ticks_1 : decode cX12_ticks 1 = .ok (.iload_n 1, 1) := by decide +kernel
theorem dX12_ticks_2 : decode cX12_ticks 2 = .ok (.iconst 1, 1) := by decide +kernel
theorem dX12_ticks_3 : decode cX12_ticks 3 = .ok (.bipush 100, 2) := by decide +kernel
theorem dX12_ticks_5 : decode cX12_ticks 5 = .ok (.invokevirtual 585, 3) := by decide +kernel
theorem dX12_ticks_8 : decode cX12_ticks 8 = .ok (.ifCond .ne 9, 3) := by decide +kernel
theorem dX12_ticks_11 : decode cX12_ticks 11 = .ok (.aload_n 0, 1) := by decide +kernel
theorem dX12_ticks_12 : decode cX12_ticks 12 = .ok (.iconst 2, 1) := by decide +kernel
theorem dX12_ticks_13 : decode cX12_ticks 13 = .ok (.invokevirtual 224, 3) := by decide +kernel
theorem dX12_ticks_16 : decode cX12_ticks 16 = .ok (.ireturn, 1) := by decide +kernel
theorem dX12_ticks_17 : decode cX12_ticks 17 = .ok (.aload_n 0, 1) := by decide +kernel
theorem dX12_ticks_18 : decode cX12_ticks 18 = .ok (.invokevirtual 607, 3) := by decide +kernel
theorem dX12_ticks_21 : decode cX12_ticks 21 = .ok (.iconst 0, 1) := by decide +kernel
theorem dX12_ticks_22 : decode cX12_ticks 22 = .ok (.istore_n 2, 1) := by decide +kernel
theorem dX12_ticks_23 : decode cX12_ticks 23 = .ok (.iconst 0, 1) := by decide +kernel
theorem dX12_ticks_24 : decode cX12_ticks 24 = .ok (.istore_n 3, 1) := by decide +kernel
theorem dX12_ticks_25 : decode cX12_ticks 25 = .ok (.iload_n 3, 1) := by decide +kernel
theorem dX12_ticks_26 : decode cX12_ticks 26 = .ok (.iload_n 1, 1) := by decide +kernel
theorem dX12_ticks_27 : decode cX12_ticks 27 = .ok (.if_icmp .ge 21, 3) := by decide +kernel
theorem dX12_ticks_30 : decode cX12_ticks 30 = .ok (.aload_n 0, 1) := by decide +kernel
theorem dX12_ticks_31 : decode cX12_ticks 31 = .ok (.iconst 0, 1) := by decide +kernel
theorem dX12_ticks_32 : decode cX12_ticks 32 = .ok (.invokevirtual 588, 3) := by decide +kernel
theorem dX12_ticks_35 : decode cX12_ticks 35 = .ok (.iload_n 2, 1) := by decide +kernel
theorem dX12_ticks_36 : decode cX12_ticks 36 = .ok (.aload_n 0, 1) := by decide +kernel
theorem dX12_ticks_37 : decode cX12_ticks 37 = .ok (.getfield 200, 3) := by decide +kernel
theorem dX12_ticks_40 : decode cX12_ticks 40 = .ok (.iadd, 1) := by decide +kernel
theorem dX12_ticks_41 : decode cX12_ticks 41 = .ok (.istore_n 2, 1) := by decide +kernel
theorem dX12_ticks_42 : decode cX12_ticks 42 = .ok (.iinc 3 1, 3) := by decide +kernel
theorem dX12_ticks_45 : decode cX12_ticks 45 = .ok (.goto (-20), 3) := by decide +kernel
theorem dX12_ticks_48 : decode cX12_ticks 48 = .ok (.iload_n 2, 1) := by decide +kernel
theorem dX12_ticks_49 : decode cX12_ticks 49 = .ok (.ireturn, 1) := by decide +kernel
theorem dX12_draw_0 : decode cX12_draw 0 = .ok (.aload_n 0, 1) := by decide +kernel
theorem dX12_draw_1 : decode cX12_draw 1 = .ok (.ldc2_w 610, 3) := by decide +kernel
theorem dX12_draw_4 : decode cX12_draw 4 = .ok (.aload_n 0, 1) := by decide +kernel
theorem dX12_draw_5 : decode cX12_draw 5 = .ok (.getfield 170, 3) := by decide +kernel
theorem dX12_draw_8 : decode cX12_draw 8 = .ok (.lmul, 1) := by decide +kernel
theorem dX12_draw_9 : decode cX12_draw 9 = .ok (.ldc2_w 612, 3) := by decide +kernel
theorem dX12_draw_12 : decode cX12_draw 12 = .ok (.ladd, 1) := by decide +kernel
theorem dX12_draw_13 : decode cX12_draw 13 = .ok (.ldc2_w 614, 3) := by decide +kernel
theorem dX12_draw_16 : decode cX12_draw 16 = .ok (.lrem, 1) := by decide +kernel
theorem dX12_draw_17 : decode cX12_draw 17 = .ok (.putfield 170, 3) := by decide +kernel
theorem dX12_draw_20 : decode cX12_draw 20 = .ok (.aload_n 0, 1) := by decide +kernel
theorem dX12_draw_21 : decode cX12_draw 21 = .ok (.getfield 170, 3) := by decide +kernel
theorem dX12_draw_24 : decode cX12_draw 24 = .ok (.ldc2_w 616, 3) := by decide +kernel
theorem dX12_draw_27 : decode cX12_draw 27 = .ok (.ldiv, 1) := by decide +kernel
theorem dX12_draw_28 : decode cX12_draw 28 = .ok (.iload_n 1, 1) := by decide +kernel
theorem dX12_draw_29 : decode cX12_draw 29 = .ok (.i2l, 1) := by decide +kernel
theorem dX12_draw_30 : decode cX12_draw 30 = .ok (.lrem, 1) := by decide +kernel
theorem dX12_draw_31 : decode cX12_draw 31 = .ok (.l2i, 1) := by decide +kernel
theorem dX12_draw_32 : decode cX12_draw 32 = .ok (.ireturn, 1) := by decide +kernel
theorem dX12_chance_0 : decode cX12_chance 0 = .ok (.aload_n 0, 1) := by decide +kernel
theorem dX12_chance_1 : decode cX12_chance 1 = .ok (.iload_n 1, 1) := by decide +kernel
theorem dX12_chance_2 : decode cX12_chance 2 = .ok (.iconst 1, 1) := by decide +kernel
theorem dX12_chance_3 : decode cX12_chance 3 = .ok (.bipush 100, 2) := by decide +kernel
theorem dX12_chance_5 : decode cX12_chance 5 = .ok (.invokevirtual 585, 3) := by decide +kernel
theorem dX12_chance_8 : decode cX12_chance 8 = .ok (.ifCond .ne 9, 3) := by decide +kernel
theorem dX12_chance_11 : decode cX12_chance 11 = .ok (.aload_n 0, 1) := by decide +kernel
theorem dX12_chance_12 : decode cX12_chance 12 = .ok (.iconst 2, 1) := by decide +kernel
theorem dX12_chance_13 : decode cX12_chance 13 = .ok (.invokevirtual 224, 3) := by decide +kernel
theorem dX12_chance_16 : decode cX12_chance 16 = .ok (.ireturn, 1) := by decide +kernel
theorem dX12_chance_17 : decode cX12_chance 17 = .ok (.aload_n 0, 1) := by decide +kernel
theorem dX12_chance_18 : decode cX12_chance 18 = .ok (.invokevirtual 607, 3) := by decide +kernel
theorem dX12_chance_21 : decode cX12_chance 21 = .ok (.iconst 0, 1) := by decide +kernel
theorem dX12_chance_22 : decode cX12_chance 22 = .ok (.istore_n 2, 1) := by decide +kernel
theorem dX12_chance_23 : decode cX12_chance 23 = .ok (.aload_n 0, 1) := by decide +kernel
theorem dX12_chance_24 : decode cX12_chance 24 = .ok (.iconst 1, 1) := by decide +kernel
theorem dX12_chance_25 : decode cX12_chance 25 = .ok (.putfield 197, 3) := by decide +kernel
theorem dX12_chance_28 : decode cX12_chance 28 = .ok (.iconst 0, 1) := by decide +kernel
theorem dX12_chance_29 : decode cX12_chance 29 = .ok (.istore_n 3, 1) := by decide +kernel
theorem dX12_chance_30 : decode cX12_chance 30 = .ok (.iload_n 3, 1) := by decide +kernel
theorem dX12_chance_31 : decode cX12_chance 31 = .ok (.iload_n 1, 1) := by decide +kernel
theorem dX12_chance_32 : decode cX12_chance 32 = .ok (.if_icmp .ge 21, 3) := by decide +kernel
theorem dX12_chance_35 : decode cX12_chance 35 = .ok (.aload_n 0, 1) := by decide +kernel
theorem dX12_chance_36 : decode cX12_chance 36 = .ok (.iconst 0, 1) := by decide +kernel
theorem dX12_chance_37 : decode cX12_chance 37 = .ok (.invokevirtual 588, 3) := by decide +kernel
theorem dX12_chance_40 : decode cX12_chance 40 = .ok (.iload_n 2, 1) := by decide +kernel
theorem dX12_chance_41 : decode cX12_chance 41 = .ok (.aload_n 0, 1) := by decide +kernel
theorem dX12_chance_42 : decode cX12_chance 42 = .ok (.getfield 203, 3) := by decide +kernel
theorem dX12_chance_45 : decode cX12_chance 45 = .ok (.iadd, 1) := by decide +kernel
theorem dX12_chance_46 : decode cX12_chance 46 = .ok (.istore_n 2, 1) := by decide +kernel
theorem dX12_chance_47 : decode cX12_chance 47 = .ok (.iinc 3 1, 3) := by decide +kernel
theorem dX12_chance_50 : decode cX12_chance 50 = .ok (.goto (-20), 3) := by decide +kernel
theorem dX12_chance_53 : decode cX12_chance 53 = .ok (.aload_n 0, 1) := by decide +kernel
theorem dX12_chance_54 : decode cX12_chance 54 = .ok (.iconst 0, 1) := by decide +kernel
theorem dX12_chance_55 : decode cX12_chance 55 = .ok (.putfield 197, 3) := by decide +kernel
theorem dX12_chance_58 : decode cX12_chance 58 = .ok (.iload_n 2, 1) := by decide +kernel
theorem dX12_chance_59 : decode cX12_chance 59 = .ok (.ireturn, 1) := by decide +kernel
theorem dX12_join_0 : decode cX12_join 0 = .ok (.aload_n 0, 1) := by decide +kernel
theorem dX12_join_1 : decode cX12_join 1 = .ok (.iload_n 1, 1) := by decide +kernel
theorem dX12_join_2 : decode cX12_join 2 = .ok (.invokevirtual 573, 3) := by decide +kernel
theorem dX12_join_5 : decode cX12_join 5 = .ok (.ifCond .eq 36, 3) := by decide +kernel
theorem dX12_join_8 : decode cX12_join 8 = .ok (.aload_n 0, 1) := by decide +kernel
theorem dX12_join_9 : decode cX12_join 9 = .ok (.iconst 0, 1) := by decide +kernel
theorem dX12_join_10 : decode cX12_join 10 = .ok (.iload_n 1, 1) := by decide +kernel
theorem dX12_join_11 : decode cX12_join 11 = .ok (.iconst 0, 1) := by decide +kernel
theorem dX12_join_12 : decode cX12_join 12 = .ok (.invokevirtual 438, 3) := by decide +kernel
theorem dX12_join_15 : decode cX12_join 15 = .ok (.iconst 1, 1) := by decide +kernel
theorem dX12_join_16 : decode cX12_join 16 = .ok (.if_icmp .eq 25, 3) := by decide +kernel
theorem dX12_join_19 : decode cX12_join 19 = .ok (.aload_n 0, 1) := by decide +kernel
theorem dX12_join_20 : decode cX12_join 20 = .ok (.iconst 0, 1) := by decide +kernel
theorem dX12_join_21 : decode cX12_join 21 = .ok (.iload_n 1, 1) := by decide +kernel
theorem dX12_join_22 : decode cX12_join 22 = .ok (.iconst 1, 1) := by decide +kernel
theorem dX12_join_23 : decode cX12_join 23 = .ok (.invokevirtual 438, 3) := by decide +kernel
theorem dX12_join_26 : decode cX12_join 26 = .ok (.iconst 1, 1) := by decide +kernel
theorem dX12_join_27 : decode cX12_join 27 = .ok (.if_icmp .eq 14, 3) := by decide +kernel
theorem dX12_join_30 : decode cX12_join 30 = .ok (.iload_n 2, 1) := by decide +kernel
theorem dX12_join_31 : decode cX12_join 31 = .ok (.iconst 0, 1) := by decide +kernel
theorem dX12_join_32 : decode cX12_join 32 = .ok (.sipush 999, 3) := by decide +kernel
theorem dX12_join_35 : decode cX12_join 35 = .ok (.invokestatic 310, 3) := by decide +kernel
theorem dX12_join_38 : decode cX12_join 38 = .ok (.ifCond .ne 17, 3) := by decide +kernel
theorem dX12_join_41 : decode cX12_join 41 = .ok (.aload_n 0, 1) := by decide +kernel
theorem dX12_join_42 : decode cX12_join 42 = .ok (.iconst 3, 1) := by decide +kernel
theorem dX12_join_43 : decode cX12_join 43 = .ok (.invokevirtual 224, 3) := by decide +kernel
theorem dX12_join_46 : decode cX12_join 46 = .ok (.ifCond .lt 7, 3) := by decide +kernel
theorem dX12_join_49 : decode cX12_join 49 = .ok (.iconst 1, 1) := by decide +kernel
theorem dX12_join_50 : decode cX12_join 50 = .ok (.goto 4, 3) := by decide +kernel
theorem dX12_join_53 : decode cX12_join 53 = .ok (.iconst 0, 1) := by decide +kernel
theorem dX12_join_54 : decode cX12_join 54 = .ok (.ireturn, 1) := by decide +kernel
theorem dX12_join_55 : decode cX12_join 55 = .ok (.aload_n 0, 1) := by decide +kernel
theorem dX12_join_56 : decode cX12_join 56 = .ok (.invokevirtual 607, 3) := by decide +kernel
theorem dX12_join_59 : decode cX12_join 59 = .ok (.aload_n 0, 1) := by decide +kernel
theorem dX12_join_60 : decode cX12_join 60 = .ok (.iconst 0, 1) := by decide +kernel
theorem dX12_join_61 : decode cX12_join 61 = .ok (.iload_n 1, 1) := by decide +kernel
theorem dX12_join_62 : decode cX12_join 62 = .ok (.iload_n 2, 1) := by decide +kernel
theorem dX12_join_63 : decode cX12_join 63 = .ok (.invokevirtual 540, 3) := by decide +kernel
theorem dX12_join_66 : decode cX12_join 66 = .ok (.ireturn, 1) := by decide +kernel
theorem dX12_kill_0 : decode cX12_kill 0 = .ok (.aload_n 0, 1) := by decide +kernel
theorem dX12_kill_1 : decode cX12_kill 1 = .ok (.iload_n 1, 1) := by decide +kernel
theorem dX12_kill_2 : decode cX12_kill 2 = .ok (.invokevirtual 573, 3) := by decide +kernel
theorem dX12_kill_5 : decode cX12_kill 5 = .ok (.ifCond .eq 12, 3) := by decide +kernel
theorem dX12_kill_8 : decode cX12_kill 8 = .ok (.aload_n 0, 1) := by decide +kernel
theorem dX12_kill_9 : decode cX12_kill 9 = .ok (.iconst 0, 1) := by decide +kernel
theorem dX12_kill_10 : decode cX12_kill 10 = .ok (.iload_n 1, 1) := by decide +kernel
theorem dX12_kill_11 : decode cX12_kill 11 = .ok (.invokevirtual 470, 3) := by decide +kernel
theorem dX12_kill_14 : decode cX12_kill 14 = .ok (.ifCond .ne 17, 3) := by decide +kernel
theorem dX12_kill_17 : decode cX12_kill 17 = .ok (.aload_n 0, 1) := by decide +kernel
theorem dX12_kill_18 : decode cX12_kill 18 = .ok (.iconst 3, 1) := by decide +kernel
theorem dX12_kill_19 : decode cX12_kill 19 = .ok (.invokevirtual 224, 3) := by decide +kernel
theorem dX12_kill_22 : decode cX12_kill 22 = .ok (.ifCond .lt 7, 3) := by decide +kernel
theorem dX12_kill_25 : decode cX12_kill 25 = .ok (.iconst 1, 1) := by decide +kernel
theorem dX12_kill_26 : decode cX12_kill 26 = .ok (.goto 4, 3) := by decide +kernel
theorem dX12_kill_29 : decode cX12_kill 29 = .ok (.iconst 0, 1) := by decide +kernel
theorem dX12_kill_30 : decode cX12_kill 30 = .ok (.ireturn, 1) := by decide +kernel
theorem dX12_kill_31 : decode cX12_kill 31 = .ok (.aload_n 0, 1) := by decide +kernel
theorem dX12_kill_32 : decode cX12_kill 32 = .ok (.invokevirtual 607, 3) := by decide +kernel
theorem dX12_kill_35 : decode cX12_kill 35 = .ok (.aload_n 0, 1) := by decide +kernel
theorem dX12_kill_36 : decode cX12_kill 36 = .ok (.iconst 0, 1) := by decide +kernel
theorem dX12_kill_37 : decode cX12_kill 37 = .ok (.iload_n 1, 1) := by decide +kernel
theorem dX12_kill_38 : decode cX12_kill 38 = .ok (.invokevirtual 516, 3) := by decide +kernel
theorem dX12_kill_41 : decode cX12_kill 41 = .ok (.iconst 1, 1) := by decide +kernel
theorem dX12_kill_42 : decode cX12_kill 42 = .ok (.ireturn, 1) := by decide +kernel
theorem dX12_spoil_0 : decode cX12_spoil 0 = .ok (.aload_n 0, 1) := by decide +kernel
theorem dX12_spoil_1 : decode cX12_spoil 1 = .ok (.iload_n 1, 1) := by decide +kernel
theorem dX12_spoil_2 : decode cX12_spoil 2 = .ok (.invokevirtual 573, 3) := by decide +kernel
theorem dX12_spoil_5 : decode cX12_spoil 5 = .ok (.ifCond .eq 23, 3) := by decide +kernel
theorem dX12_spoil_8 : decode cX12_spoil 8 = .ok (.aload_n 0, 1) := by decide +kernel
theorem dX12_spoil_9 : decode cX12_spoil 9 = .ok (.iconst 0, 1) := by decide +kernel
theorem dX12_spoil_10 : decode cX12_spoil 10 = .ok (.iload_n 1, 1) := by decide +kernel
theorem dX12_spoil_11 : decode cX12_spoil 11 = .ok (.invokevirtual 470, 3) := by decide +kernel
theorem dX12_spoil_14 : decode cX12_spoil 14 = .ok (.ifCond .eq 14, 3) := by decide +kernel
theorem dX12_spoil_17 : decode cX12_spoil 17 = .ok (.aload_n 0, 1) := by decide +kernel
theorem dX12_spoil_18 : decode cX12_spoil 18 = .ok (.iconst 0, 1) := by decide +kernel
theorem dX12_spoil_19 : decode cX12_spoil 19 = .ok (.iload_n 1, 1) := by decide +kernel
theorem dX12_spoil_20 : decode cX12_spoil 20 = .ok (.iconst 5, 1) := by decide +kernel
theorem dX12_spoil_21 : decode cX12_spoil 21 = .ok (.invokevirtual 438, 3) := by decide +kernel
theorem dX12_spoil_24 : decode cX12_spoil 24 = .ok (.iconst 1, 1) := by decide +kernel
theorem dX12_spoil_25 : decode cX12_spoil 25 = .ok (.if_icmp .ne 17, 3) := by decide +kernel
theorem dX12_spoil_28 : decode cX12_spoil 28 = .ok (.aload_n 0, 1) := by decide +kernel
theorem dX12_spoil_29 : decode cX12_spoil 29 = .ok (.iconst 3, 1) := by decide +kernel
theorem dX12_spoil_30 : decode cX12_spoil 30 = .ok (.invokevirtual 224, 3) := by decide +kernel
theorem dX12_spoil_33 : decode cX12_spoil 33 = .ok (.ifCond .lt 7, 3) := by decide +kernel
theorem dX12_spoil_36 : decode cX12_spoil 36 = .ok (.iconst 1, 1) := by decide +kernel
theorem dX12_spoil_37 : decode cX12_spoil 37 = .ok (.goto 4, 3) := by decide +kernel
theorem dX12_spoil_40 : decode cX12_spoil 40 = .ok (.iconst 0, 1) := by decide +kernel
theorem dX12_spoil_41 : decode cX12_spoil 41 = .ok (.ireturn, 1) := by decide +kernel
theorem dX12_spoil_42 : decode cX12_spoil 42 = .ok (.aload_n 0, 1) := by decide +kernel
theorem dX12_spoil_43 : decode cX12_spoil 43 = .ok (.invokevirtual 607, 3) := by decide +kernel
theorem dX12_spoil_46 : decode cX12_spoil 46 = .ok (.aload_n 0, 1) := by decide +kernel
theorem dX12_spoil_47 : decode cX12_spoil 47 = .ok (.iconst 0, 1) := by decide +kernel
theorem dX12_spoil_48 : decode cX12_spoil 48 = .ok (.iload_n 1, 1) := by decide +kernel
theorem dX12_spoil_49 : decode cX12_spoil 49 = .ok (.iconst 5, 1) := by decide +kernel
theorem dX12_spoil_50 : decode cX12_spoil 50 = .ok (.iconst 1, 1) := by decide +kernel
theorem dX12_spoil_51 : decode cX12_spoil 51 = .ok (.invokevirtual 412, 3) := by decide +kernel
theorem dX12_spoil_54 : decode cX12_spoil 54 = .ok (.iconst 1, 1) := by decide +kernel
theorem dX12_spoil_55 : decode cX12_spoil 55 = .ok (.ireturn, 1) := by decide +kernel
theorem dX12_seed_0 : decode cX12_seed 0 = .ok (.iload_n 1, 1) := by decide +kernel
theorem dX12_seed_1 : decode cX12_seed 1 = .ok (.ifCond .ge 17, 3) := by decide +kernel
theorem dX12_seed_4 : decode cX12_seed 4 = .ok (.aload_n 0, 1) := by decide +kernel
theorem dX12_seed_5 : decode cX12_seed 5 = .ok (.iconst 5, 1) := by decide +kernel
theorem dX12_seed_6 : decode cX12_seed 6 = .ok (.invokevirtual 224, 3) := by decide +kernel
theorem dX12_seed_9 : decode cX12_seed 9 = .ok (.ifCond .lt 7, 3) := by decide +kernel
theorem dX12_seed_12 : decode cX12_seed 12 = .ok (.iconst 1, 1) := by decide +kernel
theorem dX12_seed_13 : decode cX12_seed 13 = .ok (.goto 4, 3) := by decide +kernel
theorem dX12_seed_16 : decode cX12_seed 16 = .ok (.iconst 0, 1) := by decide +kernel
theorem dX12_seed_17 : decode cX12_seed 17 = .ok (.ireturn, 1) := by decide +kernel
theorem dX12_seed_18 : decode cX12_seed 18 = .ok (.aload_n 0, 1) := by decide +kernel
theorem dX12_seed_19 : decode cX12_seed 19 = .ok (.iload_n 1, 1) := by decide +kernel
theorem dX12_seed_20 : decode cX12_seed 20 = .ok (.i2l, 1) := by decide +kernel
theorem dX12_seed_21 : decode cX12_seed 21 = .ok (.putfield 170, 3) := by decide +kernel
theorem dX12_seed_24 : decode cX12_seed 24 = .ok (.iconst 1, 1) := by decide +kernel
theorem dX12_seed_25 : decode cX12_seed 25 = .ok (.ireturn, 1) := by decide +kernel
theorem dX12_kept_0 : decode cX12_kept 0 = .ok (.iload_n 1, 1) := by decide +kernel
theorem dX12_kept_1 : decode cX12_kept 1 = .ok (.iconst 0, 1) := by decide +kernel
theorem dX12_kept_2 : decode cX12_kept 2 = .ok (.aload_n 0, 1) := by decide +kernel
theorem dX12_kept_3 : decode cX12_kept 3 = .ok (.iconst 0, 1) := by decide +kernel
theorem dX12_kept_4 : decode cX12_kept 4 = .ok (.bipush 9, 2) := by decide +kernel
theorem dX12_kept_6 : decode cX12_kept 6 = .ok (.invokevirtual 402, 3) := by decide +kernel
theorem dX12_kept_9 : decode cX12_kept 9 = .ok (.iconst 1, 1) := by decide +kernel
theorem dX12_kept_10 : decode cX12_kept 10 = .ok (.isub, 1) := by decide +kernel
theorem dX12_kept_11 : decode cX12_kept 11 = .ok (.invokestatic 310, 3) := by decide +kernel
theorem dX12_kept_14 : decode cX12_kept 14 = .ok (.ifCond .eq 25, 3) := by decide +kernel
theorem dX12_kept_17 : decode cX12_kept 17 = .ok (.iload_n 2, 1) := by decide +kernel
theorem dX12_kept_18 : decode cX12_kept 18 = .ok (.iconst 0, 1) := by decide +kernel
theorem dX12_kept_19 : decode cX12_kept 19 = .ok (.iconst 2, 1) := by decide +kernel
theorem dX12_kept_20 : decode cX12_kept 20 = .ok (.invokestatic 310, 3) := by decide +kernel
theorem dX12_kept_23 : decode cX12_kept 23 = .ok (.ifCond .eq 16, 3) := by decide +kernel
theorem dX12_kept_26 : decode cX12_kept 26 = .ok (.aload_n 0, 1) := by decide +kernel
theorem dX12_kept_27 : decode cX12_kept 27 = .ok (.getfield 161, 3) := by decide +kernel
theorem dX12_kept_30 : decode cX12_kept 30 = .ok (.iconst 3, 1) := by decide +kernel
theorem dX12_kept_31 : decode cX12_kept 31 = .ok (.iload_n 1, 1) := by decide +kernel
theorem dX12_kept_32 : decode cX12_kept 32 = .ok (.imul, 1) := by decide +kernel
theorem dX12_kept_33 : decode cX12_kept 33 = .ok (.iload_n 2, 1) := by decide +kernel
theorem dX12_kept_34 : decode cX12_kept 34 = .ok (.iadd, 1) := by decide +kernel
theorem dX12_kept_35 : decode cX12_kept 35 = .ok (.iaload, 1) := by decide +kernel
theorem dX12_kept_36 : decode cX12_kept 36 = .ok (.goto 4, 3) := by decide +kernel
theorem dX12_kept_39 : decode cX12_kept 39 = .ok (.iconst (-1), 1) := by decide +kernel
theorem dX12_kept_40 : decode cX12_kept 40 = .ok (.ireturn, 1) := by decide +kernel
