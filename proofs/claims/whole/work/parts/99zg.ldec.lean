/-! the law's code, row by row -/
theorem dL_0 : decode code 0 = .ok (.new 7, 3) := by decide +kernel
theorem dL_3 : decode code 3 = .ok (.dup, 1) := by decide +kernel
theorem dL_4 : decode code 4 = .ok (.invokespecial 9, 3) := by decide +kernel
theorem dL_7 : decode code 7 = .ok (.astore_n 1, 1) := by decide +kernel
theorem dL_8 : decode code 8 = .ok (.new 10, 3) := by decide +kernel
theorem dL_11 : decode code 11 = .ok (.dup, 1) := by decide +kernel
theorem dL_12 : decode code 12 = .ok (.invokespecial 12, 3) := by decide +kernel
theorem dL_15 : decode code 15 = .ok (.astore_n 2, 1) := by decide +kernel
theorem dL_16 : decode code 16 = .ok (.iconst 0, 1) := by decide +kernel
theorem dL_17 : decode code 17 = .ok (.istore_n 3, 1) := by decide +kernel
theorem dL_18 : decode code 18 = .ok (.iload_n 3, 1) := by decide +kernel
theorem dL_19 : decode code 19 = .ok (.aload_n 0, 1) := by decide +kernel
theorem dL_20 : decode code 20 = .ok (.arraylength, 1) := by decide +kernel
theorem dL_21 : decode code 21 = .ok (.bipush 6, 2) := by decide +kernel
theorem dL_23 : decode code 23 = .ok (.isub, 1) := by decide +kernel
theorem dL_24 : decode code 24 = .ok (.if_icmp .gt 856, 3) := by decide +kernel
theorem dL_27 : decode code 27 = .ok (.aload_n 0, 1) := by decide +kernel
theorem dL_28 : decode code 28 = .ok (.iload_n 3, 1) := by decide +kernel
theorem dL_29 : decode code 29 = .ok (.iaload, 1) := by decide +kernel
theorem dL_30 : decode code 30 = .ok (.bipush 31, 2) := by decide +kernel
theorem dL_32 : decode code 32 = .ok (.iand, 1) := by decide +kernel
theorem dL_33 : decode code 33 = .ok (.tableswitch 841 0 27 #[127, 190, 213, 226, 249, 272, 305, 338, 371, 394, 417, 450, 463, 486, 509, 532, 555, 568, 591, 624, 647, 670, 703, 726, 749, 762, 785, 818], 127) := by decide +kernel
theorem dL_160 : decode code 160 = .ok (.aload_n 1, 1) := by decide +kernel
theorem dL_161 : decode code 161 = .ok (.aload_n 0, 1) := by decide +kernel
theorem dL_162 : decode code 162 = .ok (.iload_n 3, 1) := by decide +kernel
theorem dL_163 : decode code 163 = .ok (.iconst 1, 1) := by decide +kernel
theorem dL_164 : decode code 164 = .ok (.iadd, 1) := by decide +kernel
theorem dL_165 : decode code 165 = .ok (.iaload, 1) := by decide +kernel
theorem dL_166 : decode code 166 = .ok (.aload_n 0, 1) := by decide +kernel
theorem dL_167 : decode code 167 = .ok (.iload_n 3, 1) := by decide +kernel
theorem dL_168 : decode code 168 = .ok (.iconst 2, 1) := by decide +kernel
theorem dL_169 : decode code 169 = .ok (.iadd, 1) := by decide +kernel
theorem dL_170 : decode code 170 = .ok (.iaload, 1) := by decide +kernel
theorem dL_171 : decode code 171 = .ok (.aload_n 0, 1) := by decide +kernel
theorem dL_172 : decode code 172 = .ok (.iload_n 3, 1) := by decide +kernel
theorem dL_173 : decode code 173 = .ok (.iconst 3, 1) := by decide +kernel
theorem dL_174 : decode code 174 = .ok (.iadd, 1) := by decide +kernel
theorem dL_175 : decode code 175 = .ok (.iaload, 1) := by decide +kernel
theorem dL_176 : decode code 176 = .ok (.aload_n 0, 1) := by decide +kernel
theorem dL_177 : decode code 177 = .ok (.iload_n 3, 1) := by decide +kernel
theorem dL_178 : decode code 178 = .ok (.iconst 4, 1) := by decide +kernel
theorem dL_179 : decode code 179 = .ok (.iadd, 1) := by decide +kernel
theorem dL_180 : decode code 180 = .ok (.iaload, 1) := by decide +kernel
theorem dL_181 : decode code 181 = .ok (.aload_n 0, 1) := by decide +kernel
theorem dL_182 : decode code 182 = .ok (.iload_n 3, 1) := by decide +kernel
theorem dL_183 : decode code 183 = .ok (.iconst 5, 1) := by decide +kernel
theorem dL_184 : decode code 184 = .ok (.iadd, 1) := by decide +kernel
theorem dL_185 : decode code 185 = .ok (.iaload, 1) := by decide +kernel
theorem dL_186 : decode code 186 = .ok (.invokevirtual 13, 3) := by decide +kernel
theorem dL_189 : decode code 189 = .ok (.aload_n 2, 1) := by decide +kernel
theorem dL_190 : decode code 190 = .ok (.aload_n 0, 1) := by decide +kernel
theorem dL_191 : decode code 191 = .ok (.iload_n 3, 1) := by decide +kernel
theorem dL_192 : decode code 192 = .ok (.iconst 1, 1) := by decide +kernel
theorem dL_193 : decode code 193 = .ok (.iadd, 1) := by decide +kernel
theorem dL_194 : decode code 194 = .ok (.iaload, 1) := by decide +kernel
theorem dL_195 : decode code 195 = .ok (.aload_n 0, 1) := by decide +kernel
theorem dL_196 : decode code 196 = .ok (.iload_n 3, 1) := by decide +kernel
theorem dL_197 : decode code 197 = .ok (.iconst 2, 1) := by decide +kernel
theorem dL_198 : decode code 198 = .ok (.iadd, 1) := by decide +kernel
theorem dL_199 : decode code 199 = .ok (.iaload, 1) := by decide +kernel
theorem dL_200 : decode code 200 = .ok (.aload_n 0, 1) := by decide +kernel
theorem dL_201 : decode code 201 = .ok (.iload_n 3, 1) := by decide +kernel
theorem dL_202 : decode code 202 = .ok (.iconst 3, 1) := by decide +kernel
theorem dL_203 : decode code 203 = .ok (.iadd, 1) := by decide +kernel
theorem dL_204 : decode code 204 = .ok (.iaload, 1) := by decide +kernel
theorem dL_205 : decode code 205 = .ok (.aload_n 0, 1) := by decide +kernel
theorem dL_206 : decode code 206 = .ok (.iload_n 3, 1) := by decide +kernel
theorem dL_207 : decode code 207 = .ok (.iconst 4, 1) := by decide +kernel
theorem dL_208 : decode code 208 = .ok (.iadd, 1) := by decide +kernel
theorem dL_209 : decode code 209 = .ok (.iaload, 1) := by decide +kernel
theorem dL_210 : decode code 210 = .ok (.aload_n 0, 1) := by decide +kernel
theorem dL_211 : decode code 211 = .ok (.iload_n 3, 1) := by decide +kernel
theorem dL_212 : decode code 212 = .ok (.iconst 5, 1) := by decide +kernel
theorem dL_213 : decode code 213 = .ok (.iadd, 1) := by decide +kernel
theorem dL_214 : decode code 214 = .ok (.iaload, 1) := by decide +kernel
theorem dL_215 : decode code 215 = .ok (.invokevirtual 17, 3) := by decide +kernel
theorem dL_218 : decode code 218 = .ok (.if_icmp .eq 656, 3) := by decide +kernel
theorem dL_221 : decode code 221 = .ok (.iconst 0, 1) := by decide +kernel
theorem dL_222 : decode code 222 = .ok (.ireturn, 1) := by decide +kernel
theorem dL_223 : decode code 223 = .ok (.aload_n 1, 1) := by decide +kernel
theorem dL_224 : decode code 224 = .ok (.aload_n 0, 1) := by decide +kernel
theorem dL_225 : decode code 225 = .ok (.iload_n 3, 1) := by decide +kernel
theorem dL_226 : decode code 226 = .ok (.iconst 1, 1) := by decide +kernel
theorem dL_227 : decode code 227 = .ok (.iadd, 1) := by decide +kernel
theorem dL_228 : decode code 228 = .ok (.iaload, 1) := by decide +kernel
theorem dL_229 : decode code 229 = .ok (.invokevirtual 18, 3) := by decide +kernel
theorem dL_232 : decode code 232 = .ok (.aload_n 2, 1) := by decide +kernel
theorem dL_233 : decode code 233 = .ok (.aload_n 0, 1) := by decide +kernel
theorem dL_234 : decode code 234 = .ok (.iload_n 3, 1) := by decide +kernel
theorem dL_235 : decode code 235 = .ok (.iconst 1, 1) := by decide +kernel
theorem dL_236 : decode code 236 = .ok (.iadd, 1) := by decide +kernel
theorem dL_237 : decode code 237 = .ok (.iaload, 1) := by decide +kernel
theorem dL_238 : decode code 238 = .ok (.invokevirtual 22, 3) := by decide +kernel
theorem dL_241 : decode code 241 = .ok (.if_icmp .eq 633, 3) := by decide +kernel
theorem dL_244 : decode code 244 = .ok (.iconst 0, 1) := by decide +kernel
theorem dL_245 : decode code 245 = .ok (.ireturn, 1) := by decide +kernel
theorem dL_246 : decode code 246 = .ok (.aload_n 1, 1) := by decide +kernel
theorem dL_247 : decode code 247 = .ok (.invokevirtual 23, 3) := by decide +kernel
theorem dL_250 : decode code 250 = .ok (.aload_n 2, 1) := by decide +kernel
theorem dL_251 : decode code 251 = .ok (.invokevirtual 27, 3) := by decide +kernel
theorem dL_254 : decode code 254 = .ok (.if_icmp .eq 620, 3) := by decide +kernel
theorem dL_257 : decode code 257 = .ok (.iconst 0, 1) := by decide +kernel
theorem dL_258 : decode code 258 = .ok (.ireturn, 1) := by decide +kernel
theorem dL_259 : decode code 259 = .ok (.aload_n 1, 1) := by decide +kernel
theorem dL_260 : decode code 260 = .ok (.aload_n 0, 1) := by decide +kernel
theorem dL_261 : decode code 261 = .ok (.iload_n 3, 1) := by decide +kernel
theorem dL_262 : decode code 262 = .ok (.iconst 1, 1) := by decide +kernel
theorem dL_263 : decode code 263 = .ok (.iadd, 1) := by decide +kernel
theorem dL_264 : decode code 264 = .ok (.iaload, 1) := by decide +kernel
theorem dL_265 : decode code 265 = .ok (.invokevirtual 28, 3) := by decide +kernel
theorem dL_268 : decode code 268 = .ok (.aload_n 2, 1) := by decide +kernel
theorem dL_269 : decode code 269 = .ok (.aload_n 0, 1) := by decide +kernel
theorem dL_270 : decode code 270 = .ok (.iload_n 3, 1) := by decide +kernel
theorem dL_271 : decode code 271 = .ok (.iconst 1, 1) := by decide +kernel
theorem dL_272 : decode code 272 = .ok (.iadd, 1) := by decide +kernel
theorem dL_273 : decode code 273 = .ok (.iaload, 1) := by decide +kernel
theorem dL_274 : decode code 274 = .ok (.invokevirtual 32, 3) := by decide +kernel
theorem dL_277 : decode code 277 = .ok (.if_icmp .eq 597, 3) := by decide +kernel
theorem dL_280 : decode code 280 = .ok (.iconst 0, 1) := by decide +kernel
theorem dL_281 : decode code 281 = .ok (.ireturn, 1) := by decide +kernel
theorem dL_282 : decode code 282 = .ok (.aload_n 1, 1) := by decide +kernel
theorem dL_283 : decode code 283 = .ok (.aload_n 0, 1) := by decide +kernel
theorem dL_284 : decode code 284 = .ok (.iload_n 3, 1) := by decide +kernel
theorem dL_285 : decode code 285 = .ok (.iconst 1, 1) := by decide +kernel
theorem dL_286 : decode code 286 = .ok (.iadd, 1) := by decide +kernel
theorem dL_287 : decode code 287 = .ok (.iaload, 1) := by decide +kernel
theorem dL_288 : decode code 288 = .ok (.invokevirtual 33, 3) := by decide +kernel
theorem dL_291 : decode code 291 = .ok (.aload_n 2, 1) := by decide +kernel
theorem dL_292 : decode code 292 = .ok (.aload_n 0, 1) := by decide +kernel
theorem dL_293 : decode code 293 = .ok (.iload_n 3, 1) := by decide +kernel
theorem dL_294 : decode code 294 = .ok (.iconst 1, 1) := by decide +kernel
theorem dL_295 : decode code 295 = .ok (.iadd, 1) := by decide +kernel
theorem dL_296 : decode code 296 = .ok (.iaload, 1) := by decide +kernel
theorem dL_297 : decode code 297 = .ok (.invokevirtual 36, 3) := by decide +kernel
theorem dL_300 : decode code 300 = .ok (.if_icmp .eq 574, 3) := by decide +kernel
theorem dL_303 : decode code 303 = .ok (.iconst 0, 1) := by decide +kernel
theorem dL_304 : decode code 304 = .ok (.ireturn, 1) := by decide +kernel
theorem dL_305 : decode code 305 = .ok (.aload_n 1, 1) := by decide +kernel
theorem dL_306 : decode code 306 = .ok (.aload_n 0, 1) := by decide +kernel
theorem dL_307 : decode code 307 = .ok (.iload_n 3, 1) := by decide +kernel
theorem dL_308 : decode code 308 = .ok (.iconst 1, 1) := by decide +kernel
theorem dL_309 : decode code 309 = .ok (.iadd, 1) := by decide +kernel
theorem dL_310 : decode code 310 = .ok (.iaload, 1) := by decide +kernel
theorem dL_311 : decode code 311 = .ok (.aload_n 0, 1) := by decide +kernel
theorem dL_312 : decode code 312 = .ok (.iload_n 3, 1) := by decide +kernel
theorem dL_313 : decode code 313 = .ok (.iconst 2, 1) := by decide +kernel
theorem dL_314 : decode code 314 = .ok (.iadd, 1) := by decide +kernel
theorem dL_315 : decode code 315 = .ok (.iaload, 1) := by decide +kernel
theorem dL_316 : decode code 316 = .ok (.invokevirtual 37, 3) := by decide +kernel
theorem dL_319 : decode code 319 = .ok (.aload_n 2, 1) := by decide +kernel
theorem dL_320 : decode code 320 = .ok (.aload_n 0, 1) := by decide +kernel
theorem dL_321 : decode code 321 = .ok (.iload_n 3, 1) := by decide +kernel
theorem dL_322 : decode code 322 = .ok (.iconst 1, 1) := by decide +kernel
theorem dL_323 : decode code 323 = .ok (.iadd, 1) := by decide +kernel
theorem dL_324 : decode code 324 = .ok (.iaload, 1) := by decide +kernel
theorem dL_325 : decode code 325 = .ok (.aload_n 0, 1) := by decide +kernel
theorem dL_326 : decode code 326 = .ok (.iload_n 3, 1) := by decide +kernel
theorem dL_327 : decode code 327 = .ok (.iconst 2, 1) := by decide +kernel
theorem dL_328 : decode code 328 = .ok (.iadd, 1) := by decide +kernel
theorem dL_329 : decode code 329 = .ok (.iaload, 1) := by decide +kernel
theorem dL_330 : decode code 330 = .ok (.invokevirtual 41, 3) := by decide +kernel
theorem dL_333 : decode code 333 = .ok (.if_icmp .eq 541, 3) := by decide +kernel
theorem dL_336 : decode code 336 = .ok (.iconst 0, 1) := by decide +kernel
theorem dL_337 : decode code 337 = .ok (.ireturn, 1) := by decide +kernel
theorem dL_338 : decode code 338 = .ok (.aload_n 1, 1) := by decide +kernel
theorem dL_339 : decode code 339 = .ok (.aload_n 0, 1) := by decide +kernel
theorem dL_340 : decode code 340 = .ok (.iload_n 3, 1) := by decide +kernel
theorem dL_341 : decode code 341 = .ok (.iconst 1, 1) := by decide +kernel
theorem dL_342 : decode code 342 = .ok (.iadd, 1) := by decide +kernel
theorem dL_343 : decode code 343 = .ok (.iaload, 1) := by decide +kernel
theorem dL_344 : decode code 344 = .ok (.aload_n 0, 1) := by decide +kernel
theorem dL_345 : decode code 345 = .ok (.iload_n 3, 1) := by decide +kernel
theorem dL_346 : decode code 346 = .ok (.iconst 2, 1) := by decide +kernel
theorem dL_347 : decode code 347 = .ok (.iadd, 1) := by decide +kernel
theorem dL_348 : decode code 348 = .ok (.iaload, 1) := by decide +kernel
theorem dL_349 : decode code 349 = .ok (.invokevirtual 42, 3) := by decide +kernel
theorem dL_352 : decode code 352 = .ok (.aload_n 2, 1) := by decide +kernel
theorem dL_353 : decode code 353 = .ok (.aload_n 0, 1) := by decide +kernel
theorem dL_354 : decode code 354 = .ok (.iload_n 3, 1) := by decide +kernel
theorem dL_355 : decode code 355 = .ok (.iconst 1, 1) := by decide +kernel
theorem dL_356 : decode code 356 = .ok (.iadd, 1) := by decide +kernel
theorem dL_357 : decode code 357 = .ok (.iaload, 1) := by decide +kernel
theorem dL_358 : decode code 358 = .ok (.aload_n 0, 1) := by decide +kernel
theorem dL_359 : decode code 359 = .ok (.iload_n 3, 1) := by decide +kernel
theorem dL_360 : decode code 360 = .ok (.iconst 2, 1) := by decide +kernel
theorem dL_361 : decode code 361 = .ok (.iadd, 1) := by decide +kernel
theorem dL_362 : decode code 362 = .ok (.iaload, 1) := by decide +kernel
theorem dL_363 : decode code 363 = .ok (.invokevirtual 45, 3) := by decide +kernel
theorem dL_366 : decode code 366 = .ok (.if_icmp .eq 508, 3) := by decide +kernel
theorem dL_369 : decode code 369 = .ok (.iconst 0, 1) := by decide +kernel
theorem dL_370 : decode code 370 = .ok (.ireturn, 1) := by decide +kernel
theorem dL_371 : decode code 371 = .ok (.aload_n 1, 1) := by decide +kernel
theorem dL_372 : decode code 372 = .ok (.aload_n 0, 1) := by decide +kernel
theorem dL_373 : decode code 373 = .ok (.iload_n 3, 1) := by decide +kernel
theorem dL_374 : decode code 374 = .ok (.iconst 1, 1) := by decide +kernel
theorem dL_375 : decode code 375 = .ok (.iadd, 1) := by decide +kernel
theorem dL_376 : decode code 376 = .ok (.iaload, 1) := by decide +kernel
theorem dL_377 : decode code 377 = .ok (.aload_n 0, 1) := by decide +kernel
theorem dL_378 : decode code 378 = .ok (.iload_n 3, 1) := by decide +kernel
theorem dL_379 : decode code 379 = .ok (.iconst 2, 1) := by decide +kernel
theorem dL_380 : decode code 380 = .ok (.iadd, 1) := by decide +kernel
theorem dL_381 : decode code 381 = .ok (.iaload, 1) := by decide +kernel
theorem dL_382 : decode code 382 = .ok (.invokevirtual 46, 3) := by decide +kernel
theorem dL_385 : decode code 385 = .ok (.aload_n 2, 1) := by decide +kernel
theorem dL_386 : decode code 386 = .ok (.aload_n 0, 1) := by decide +kernel
theorem dL_387 : decode code 387 = .ok (.iload_n 3, 1) := by decide +kernel
theorem dL_388 : decode code 388 = .ok (.iconst 1, 1) := by decide +kernel
theorem dL_389 : decode code 389 = .ok (.iadd, 1) := by decide +kernel
theorem dL_390 : decode code 390 = .ok (.iaload, 1) := by decide +kernel
theorem dL_391 : decode code 391 = .ok (.aload_n 0, 1) := by decide +kernel
theorem dL_392 : decode code 392 = .ok (.iload_n 3, 1) := by decide +kernel
theorem dL_393 : decode code 393 = .ok (.iconst 2, 1) := by decide +kernel
theorem dL_394 : decode code 394 = .ok (.iadd, 1) := by decide +kernel
theorem dL_395 : decode code 395 = .ok (.iaload, 1) := by decide +kernel
theorem dL_396 : decode code 396 = .ok (.invokevirtual 49, 3) := by decide +kernel
theorem dL_399 : decode code 399 = .ok (.if_icmp .eq 475, 3) := by decide +kernel
theorem dL_402 : decode code 402 = .ok (.iconst 0, 1) := by decide +kernel
theorem dL_403 : decode code 403 = .ok (.ireturn, 1) := by decide +kernel
theorem dL_404 : decode code 404 = .ok (.aload_n 1, 1) := by decide +kernel
theorem dL_405 : decode code 405 = .ok (.aload_n 0, 1) := by decide +kernel
theorem dL_406 : decode code 406 = .ok (.iload_n 3, 1) := by decide +kernel
theorem dL_407 : decode code 407 = .ok (.iconst 1, 1) := by decide +kernel
theorem dL_408 : decode code 408 = .ok (.iadd, 1) := by decide +kernel
theorem dL_409 : decode code 409 = .ok (.iaload, 1) := by decide +kernel
theorem dL_410 : decode code 410 = .ok (.invokevirtual 50, 3) := by decide +kernel
theorem dL_413 : decode code 413 = .ok (.aload_n 2, 1) := by decide +kernel
theorem dL_414 : decode code 414 = .ok (.aload_n 0, 1) := by decide +kernel
theorem dL_415 : decode code 415 = .ok (.iload_n 3, 1) := by decide +kernel
theorem dL_416 : decode code 416 = .ok (.iconst 1, 1) := by decide +kernel
theorem dL_417 : decode code 417 = .ok (.iadd, 1) := by decide +kernel
theorem dL_418 : decode code 418 = .ok (.iaload, 1) := by decide +kernel
theorem dL_419 : decode code 419 = .ok (.invokevirtual 53, 3) := by decide +kernel
theorem dL_422 : decode code 422 = .ok (.if_icmp .eq 452, 3) := by decide +kernel
theorem dL_425 : decode code 425 = .ok (.iconst 0, 1) := by decide +kernel
theorem dL_426 : decode code 426 = .ok (.ireturn, 1) := by decide +kernel
theorem dL_427 : decode code 427 = .ok (.aload_n 1, 1) := by decide +kernel
theorem dL_428 : decode code 428 = .ok (.aload_n 0, 1) := by decide +kernel
theorem dL_429 : decode code 429 = .ok (.iload_n 3, 1) := by decide +kernel
theorem dL_430 : decode code 430 = .ok (.iconst 1, 1) := by decide +kernel
theorem dL_431 : decode code 431 = .ok (.iadd, 1) := by decide +kernel
theorem dL_432 : decode code 432 = .ok (.iaload, 1) := by decide +kernel
theorem dL_433 : decode code 433 = .ok (.invokevirtual 54, 3) := by decide +kernel
theorem dL_436 : decode code 436 = .ok (.aload_n 2, 1) := by decide +kernel
theorem dL_437 : decode code 437 = .ok (.aload_n 0, 1) := by decide +kernel
theorem dL_438 : decode code 438 = .ok (.iload_n 3, 1) := by decide +kernel
theorem dL_439 : decode code 439 = .ok (.iconst 1, 1) := by decide +kernel
theorem dL_440 : decode code 440 = .ok (.iadd, 1) := by decide +kernel
theorem dL_441 : decode code 441 = .ok (.iaload, 1) := by decide +kernel
theorem dL_442 : decode code 442 = .ok (.invokevirtual 57, 3) := by decide +kernel
theorem dL_445 : decode code 445 = .ok (.if_icmp .eq 429, 3) := by decide +kernel
theorem dL_448 : decode code 448 = .ok (.iconst 0, 1) := by decide +kernel
theorem dL_449 : decode code 449 = .ok (.ireturn, 1) := by decide +kernel
theorem dL_450 : decode code 450 = .ok (.aload_n 1, 1) := by decide +kernel
theorem dL_451 : decode code 451 = .ok (.aload_n 0, 1) := by decide +kernel
theorem dL_452 : decode code 452 = .ok (.iload_n 3, 1) := by decide +kernel
theorem dL_453 : decode code 453 = .ok (.iconst 1, 1) := by decide +kernel
theorem dL_454 : decode code 454 = .ok (.iadd, 1) := by decide +kernel
theorem dL_455 : decode code 455 = .ok (.iaload, 1) := by decide +kernel
theorem dL_456 : decode code 456 = .ok (.aload_n 0, 1) := by decide +kernel
theorem dL_457 : decode code 457 = .ok (.iload_n 3, 1) := by decide +kernel
theorem dL_458 : decode code 458 = .ok (.iconst 2, 1) := by decide +kernel
theorem dL_459 : decode code 459 = .ok (.iadd, 1) := by decide +kernel
theorem dL_460 : decode code 460 = .ok (.iaload, 1) := by decide +kernel
theorem dL_461 : decode code 461 = .ok (.invokevirtual 58, 3) := by decide +kernel
theorem dL_464 : decode code 464 = .ok (.aload_n 2, 1) := by decide +kernel
theorem dL_465 : decode code 465 = .ok (.aload_n 0, 1) := by decide +kernel
theorem dL_466 : decode code 466 = .ok (.iload_n 3, 1) := by decide +kernel
theorem dL_467 : decode code 467 = .ok (.iconst 1, 1) := by decide +kernel
theorem dL_468 : decode code 468 = .ok (.iadd, 1) := by decide +kernel
theorem dL_469 : decode code 469 = .ok (.iaload, 1) := by decide +kernel
theorem dL_470 : decode code 470 = .ok (.aload_n 0, 1) := by decide +kernel
theorem dL_471 : decode code 471 = .ok (.iload_n 3, 1) := by decide +kernel
theorem dL_472 : decode code 472 = .ok (.iconst 2, 1) := by decide +kernel
theorem dL_473 : decode code 473 = .ok (.iadd, 1) := by decide +kernel
theorem dL_474 : decode code 474 = .ok (.iaload, 1) := by decide +kernel
theorem dL_475 : decode code 475 = .ok (.invokevirtual 61, 3) := by decide +kernel
theorem dL_478 : decode code 478 = .ok (.if_icmp .eq 396, 3) := by decide +kernel
theorem dL_481 : decode code 481 = .ok (.iconst 0, 1) := by decide +kernel
theorem dL_482 : decode code 482 = .ok (.ireturn, 1) := by decide +kernel
theorem dL_483 : decode code 483 = .ok (.aload_n 1, 1) := by decide +kernel
theorem dL_484 : decode code 484 = .ok (.invokevirtual 62, 3) := by decide +kernel
theorem dL_487 : decode code 487 = .ok (.aload_n 2, 1) := by decide +kernel
theorem dL_488 : decode code 488 = .ok (.invokevirtual 65, 3) := by decide +kernel
theorem dL_491 : decode code 491 = .ok (.if_icmp .eq 383, 3) := by decide +kernel
theorem dL_494 : decode code 494 = .ok (.iconst 0, 1) := by decide +kernel
theorem dL_495 : decode code 495 = .ok (.ireturn, 1) := by decide +kernel
theorem dL_496 : decode code 496 = .ok (.aload_n 1, 1) := by decide +kernel
theorem dL_497 : decode code 497 = .ok (.aload_n 0, 1) := by decide +kernel
theorem dL_498 : decode code 498 = .ok (.iload_n 3, 1) := by decide +kernel
theorem dL_499 : decode code 499 = .ok (.iconst 1, 1) := by decide +kernel
theorem dL_500 : decode code 500 = .ok (.iadd, 1) := by decide +kernel
theorem dL_501 : decode code 501 = .ok (.iaload, 1) := by decide +kernel
theorem dL_502 : decode code 502 = .ok (.invokevirtual 66, 3) := by decide +kernel
theorem dL_505 : decode code 505 = .ok (.aload_n 2, 1) := by decide +kernel
theorem dL_506 : decode code 506 = .ok (.aload_n 0, 1) := by decide +kernel
theorem dL_507 : decode code 507 = .ok (.iload_n 3, 1) := by decide +kernel
theorem dL_508 : decode code 508 = .ok (.iconst 1, 1) := by decide +kernel
theorem dL_509 : decode code 509 = .ok (.iadd, 1) := by decide +kernel
theorem dL_510 : decode code 510 = .ok (.iaload, 1) := by decide +kernel
theorem dL_511 : decode code 511 = .ok (.invokevirtual 69, 3) := by decide +kernel
theorem dL_514 : decode code 514 = .ok (.if_icmp .eq 360, 3) := by decide +kernel
theorem dL_517 : decode code 517 = .ok (.iconst 0, 1) := by decide +kernel
theorem dL_518 : decode code 518 = .ok (.ireturn, 1) := by decide +kernel
theorem dL_519 : decode code 519 = .ok (.aload_n 1, 1) := by decide +kernel
theorem dL_520 : decode code 520 = .ok (.aload_n 0, 1) := by decide +kernel
theorem dL_521 : decode code 521 = .ok (.iload_n 3, 1) := by decide +kernel
theorem dL_522 : decode code 522 = .ok (.iconst 1, 1) := by decide +kernel
theorem dL_523 : decode code 523 = .ok (.iadd, 1) := by decide +kernel
theorem dL_524 : decode code 524 = .ok (.iaload, 1) := by decide +kernel
theorem dL_525 : decode code 525 = .ok (.invokevirtual 70, 3) := by decide +kernel
theorem dL_528 : decode code 528 = .ok (.aload_n 2, 1) := by decide +kernel
theorem dL_529 : decode code 529 = .ok (.aload_n 0, 1) := by decide +kernel
theorem dL_530 : decode code 530 = .ok (.iload_n 3, 1) := by decide +kernel
theorem dL_531 : decode code 531 = .ok (.iconst 1, 1) := by decide +kernel
theorem dL_532 : decode code 532 = .ok (.iadd, 1) := by decide +kernel
theorem dL_533 : decode code 533 = .ok (.iaload, 1) := by decide +kernel
theorem dL_534 : decode code 534 = .ok (.invokevirtual 73, 3) := by decide +kernel
theorem dL_537 : decode code 537 = .ok (.if_icmp .eq 337, 3) := by decide +kernel
theorem dL_540 : decode code 540 = .ok (.iconst 0, 1) := by decide +kernel
theorem dL_541 : decode code 541 = .ok (.ireturn, 1) := by decide +kernel
theorem dL_542 : decode code 542 = .ok (.aload_n 1, 1) := by decide +kernel
theorem dL_543 : decode code 543 = .ok (.aload_n 0, 1) := by decide +kernel
theorem dL_544 : decode code 544 = .ok (.iload_n 3, 1) := by decide +kernel
theorem dL_545 : decode code 545 = .ok (.iconst 1, 1) := by decide +kernel
theorem dL_546 : decode code 546 = .ok (.iadd, 1) := by decide +kernel
theorem dL_547 : decode code 547 = .ok (.iaload, 1) := by decide +kernel
theorem dL_548 : decode code 548 = .ok (.invokevirtual 74, 3) := by decide +kernel
theorem dL_551 : decode code 551 = .ok (.aload_n 2, 1) := by decide +kernel
theorem dL_552 : decode code 552 = .ok (.aload_n 0, 1) := by decide +kernel
theorem dL_553 : decode code 553 = .ok (.iload_n 3, 1) := by decide +kernel
theorem dL_554 : decode code 554 = .ok (.iconst 1, 1) := by decide +kernel
theorem dL_555 : decode code 555 = .ok (.iadd, 1) := by decide +kernel
theorem dL_556 : decode code 556 = .ok (.iaload, 1) := by decide +kernel
theorem dL_557 : decode code 557 = .ok (.invokevirtual 77, 3) := by decide +kernel
theorem dL_560 : decode code 560 = .ok (.if_icmp .eq 314, 3) := by decide +kernel
theorem dL_563 : decode code 563 = .ok (.iconst 0, 1) := by decide +kernel
theorem dL_564 : decode code 564 = .ok (.ireturn, 1) := by decide +kernel
theorem dL_565 : decode code 565 = .ok (.aload_n 1, 1) := by decide +kernel
theorem dL_566 : decode code 566 = .ok (.aload_n 0, 1) := by decide +kernel
theorem dL_567 : decode code 567 = .ok (.iload_n 3, 1) := by decide +kernel
theorem dL_568 : decode code 568 = .ok (.iconst 1, 1) := by decide +kernel
theorem dL_569 : decode code 569 = .ok (.iadd, 1) := by decide +kernel
theorem dL_570 : decode code 570 = .ok (.iaload, 1) := by decide +kernel
theorem dL_571 : decode code 571 = .ok (.invokevirtual 78, 3) := by decide +kernel
theorem dL_574 : decode code 574 = .ok (.aload_n 2, 1) := by decide +kernel
theorem dL_575 : decode code 575 = .ok (.aload_n 0, 1) := by decide +kernel
theorem dL_576 : decode code 576 = .ok (.iload_n 3, 1) := by decide +kernel
theorem dL_577 : decode code 577 = .ok (.iconst 1, 1) := by decide +kernel
theorem dL_578 : decode code 578 = .ok (.iadd, 1) := by decide +kernel
theorem dL_579 : decode code 579 = .ok (.iaload, 1) := by decide +kernel
theorem dL_580 : decode code 580 = .ok (.invokevirtual 81, 3) := by decide +kernel
theorem dL_583 : decode code 583 = .ok (.if_icmp .eq 291, 3) := by decide +kernel
theorem dL_586 : decode code 586 = .ok (.iconst 0, 1) := by decide +kernel
theorem dL_587 : decode code 587 = .ok (.ireturn, 1) := by decide +kernel
theorem dL_588 : decode code 588 = .ok (.aload_n 1, 1) := by decide +kernel
theorem dL_589 : decode code 589 = .ok (.invokevirtual 82, 3) := by decide +kernel
theorem dL_592 : decode code 592 = .ok (.aload_n 2, 1) := by decide +kernel
theorem dL_593 : decode code 593 = .ok (.invokevirtual 85, 3) := by decide +kernel
theorem dL_596 : decode code 596 = .ok (.if_icmp .eq 278, 3) := by decide +kernel
theorem dL_599 : decode code 599 = .ok (.iconst 0, 1) := by decide +kernel
theorem dL_600 : decode code 600 = .ok (.ireturn, 1) := by decide +kernel
theorem dL_601 : decode code 601 = .ok (.aload_n 1, 1) := by decide +kernel
theorem dL_602 : decode code 602 = .ok (.aload_n 0, 1) := by decide +kernel
theorem dL_603 : decode code 603 = .ok (.iload_n 3, 1) := by decide +kernel
theorem dL_604 : decode code 604 = .ok (.iconst 1, 1) := by decide +kernel
theorem dL_605 : decode code 605 = .ok (.iadd, 1) := by decide +kernel
theorem dL_606 : decode code 606 = .ok (.iaload, 1) := by decide +kernel
theorem dL_607 : decode code 607 = .ok (.invokevirtual 86, 3) := by decide +kernel
theorem dL_610 : decode code 610 = .ok (.aload_n 2, 1) := by decide +kernel
theorem dL_611 : decode code 611 = .ok (.aload_n 0, 1) := by decide +kernel
theorem dL_612 : decode code 612 = .ok (.iload_n 3, 1) := by decide +kernel
theorem dL_613 : decode code 613 = .ok (.iconst 1, 1) := by decide +kernel
theorem dL_614 : decode code 614 = .ok (.iadd, 1) := by decide +kernel
theorem dL_615 : decode code 615 = .ok (.iaload, 1) := by decide +kernel
theorem dL_616 : decode code 616 = .ok (.invokevirtual 89, 3) := by decide +kernel
theorem dL_619 : decode code 619 = .ok (.if_icmp .eq 255, 3) := by decide +kernel
theorem dL_622 : decode code 622 = .ok (.iconst 0, 1) := by decide +kernel
theorem dL_623 : decode code 623 = .ok (.ireturn, 1) := by decide +kernel
theorem dL_624 : decode code 624 = .ok (.aload_n 1, 1) := by decide +kernel
theorem dL_625 : decode code 625 = .ok (.aload_n 0, 1) := by decide +kernel
theorem dL_626 : decode code 626 = .ok (.iload_n 3, 1) := by decide +kernel
theorem dL_627 : decode code 627 = .ok (.iconst 1, 1) := by decide +kernel
theorem dL_628 : decode code 628 = .ok (.iadd, 1) := by decide +kernel
theorem dL_629 : decode code 629 = .ok (.iaload, 1) := by decide +kernel
theorem dL_630 : decode code 630 = .ok (.aload_n 0, 1) := by decide +kernel
theorem dL_631 : decode code 631 = .ok (.iload_n 3, 1) := by decide +kernel
theorem dL_632 : decode code 632 = .ok (.iconst 2, 1) := by decide +kernel
theorem dL_633 : decode code 633 = .ok (.iadd, 1) := by decide +kernel
theorem dL_634 : decode code 634 = .ok (.iaload, 1) := by decide +kernel
theorem dL_635 : decode code 635 = .ok (.invokevirtual 90, 3) := by decide +kernel
theorem dL_638 : decode code 638 = .ok (.aload_n 2, 1) := by decide +kernel
theorem dL_639 : decode code 639 = .ok (.aload_n 0, 1) := by decide +kernel
theorem dL_640 : decode code 640 = .ok (.iload_n 3, 1) := by decide +kernel
theorem dL_641 : decode code 641 = .ok (.iconst 1, 1) := by decide +kernel
theorem dL_642 : decode code 642 = .ok (.iadd, 1) := by decide +kernel
theorem dL_643 : decode code 643 = .ok (.iaload, 1) := by decide +kernel
theorem dL_644 : decode code 644 = .ok (.aload_n 0, 1) := by decide +kernel
theorem dL_645 : decode code 645 = .ok (.iload_n 3, 1) := by decide +kernel
theorem dL_646 : decode code 646 = .ok (.iconst 2, 1) := by decide +kernel
theorem dL_647 : decode code 647 = .ok (.iadd, 1) := by decide +kernel
theorem dL_648 : decode code 648 = .ok (.iaload, 1) := by decide +kernel
theorem dL_649 : decode code 649 = .ok (.invokevirtual 93, 3) := by decide +kernel
theorem dL_652 : decode code 652 = .ok (.if_icmp .eq 222, 3) := by decide +kernel
theorem dL_655 : decode code 655 = .ok (.iconst 0, 1) := by decide +kernel
theorem dL_656 : decode code 656 = .ok (.ireturn, 1) := by decide +kernel
theorem dL_657 : decode code 657 = .ok (.aload_n 1, 1) := by decide +kernel
theorem dL_658 : decode code 658 = .ok (.aload_n 0, 1) := by decide +kernel
theorem dL_659 : decode code 659 = .ok (.iload_n 3, 1) := by decide +kernel
theorem dL_660 : decode code 660 = .ok (.iconst 1, 1) := by decide +kernel
theorem dL_661 : decode code 661 = .ok (.iadd, 1) := by decide +kernel
theorem dL_662 : decode code 662 = .ok (.iaload, 1) := by decide +kernel
theorem dL_663 : decode code 663 = .ok (.invokevirtual 94, 3) := by decide +kernel
theorem dL_666 : decode code 666 = .ok (.aload_n 2, 1) := by decide +kernel
theorem dL_667 : decode code 667 = .ok (.aload_n 0, 1) := by decide +kernel
theorem dL_668 : decode code 668 = .ok (.iload_n 3, 1) := by decide +kernel
theorem dL_669 : decode code 669 = .ok (.iconst 1, 1) := by decide +kernel
theorem dL_670 : decode code 670 = .ok (.iadd, 1) := by decide +kernel
theorem dL_671 : decode code 671 = .ok (.iaload, 1) := by decide +kernel
theorem dL_672 : decode code 672 = .ok (.invokevirtual 97, 3) := by decide +kernel
theorem dL_675 : decode code 675 = .ok (.if_icmp .eq 199, 3) := by decide +kernel
theorem dL_678 : decode code 678 = .ok (.iconst 0, 1) := by decide +kernel
theorem dL_679 : decode code 679 = .ok (.ireturn, 1) := by decide +kernel
theorem dL_680 : decode code 680 = .ok (.aload_n 1, 1) := by decide +kernel
theorem dL_681 : decode code 681 = .ok (.aload_n 0, 1) := by decide +kernel
theorem dL_682 : decode code 682 = .ok (.iload_n 3, 1) := by decide +kernel
theorem dL_683 : decode code 683 = .ok (.iconst 1, 1) := by decide +kernel
theorem dL_684 : decode code 684 = .ok (.iadd, 1) := by decide +kernel
theorem dL_685 : decode code 685 = .ok (.iaload, 1) := by decide +kernel
theorem dL_686 : decode code 686 = .ok (.invokevirtual 98, 3) := by decide +kernel
theorem dL_689 : decode code 689 = .ok (.aload_n 2, 1) := by decide +kernel
theorem dL_690 : decode code 690 = .ok (.aload_n 0, 1) := by decide +kernel
theorem dL_691 : decode code 691 = .ok (.iload_n 3, 1) := by decide +kernel
theorem dL_692 : decode code 692 = .ok (.iconst 1, 1) := by decide +kernel
theorem dL_693 : decode code 693 = .ok (.iadd, 1) := by decide +kernel
theorem dL_694 : decode code 694 = .ok (.iaload, 1) := by decide +kernel
theorem dL_695 : decode code 695 = .ok (.invokevirtual 101, 3) := by decide +kernel
theorem dL_698 : decode code 698 = .ok (.if_icmp .eq 176, 3) := by decide +kernel
theorem dL_701 : decode code 701 = .ok (.iconst 0, 1) := by decide +kernel
theorem dL_702 : decode code 702 = .ok (.ireturn, 1) := by decide +kernel
theorem dL_703 : decode code 703 = .ok (.aload_n 1, 1) := by decide +kernel
theorem dL_704 : decode code 704 = .ok (.aload_n 0, 1) := by decide +kernel
theorem dL_705 : decode code 705 = .ok (.iload_n 3, 1) := by decide +kernel
theorem dL_706 : decode code 706 = .ok (.iconst 1, 1) := by decide +kernel
theorem dL_707 : decode code 707 = .ok (.iadd, 1) := by decide +kernel
theorem dL_708 : decode code 708 = .ok (.iaload, 1) := by decide +kernel
theorem dL_709 : decode code 709 = .ok (.aload_n 0, 1) := by decide +kernel
theorem dL_710 : decode code 710 = .ok (.iload_n 3, 1) := by decide +kernel
theorem dL_711 : decode code 711 = .ok (.iconst 2, 1) := by decide +kernel
theorem dL_712 : decode code 712 = .ok (.iadd, 1) := by decide +kernel
theorem dL_713 : decode code 713 = .ok (.iaload, 1) := by decide +kernel
theorem dL_714 : decode code 714 = .ok (.invokevirtual 102, 3) := by decide +kernel
theorem dL_717 : decode code 717 = .ok (.aload_n 2, 1) := by decide +kernel
theorem dL_718 : decode code 718 = .ok (.aload_n 0, 1) := by decide +kernel
theorem dL_719 : decode code 719 = .ok (.iload_n 3, 1) := by decide +kernel
theorem dL_720 : decode code 720 = .ok (.iconst 1, 1) := by decide +kernel
theorem dL_721 : decode code 721 = .ok (.iadd, 1) := by decide +kernel
theorem dL_722 : decode code 722 = .ok (.iaload, 1) := by decide +kernel
theorem dL_723 : decode code 723 = .ok (.aload_n 0, 1) := by decide +kernel
theorem dL_724 : decode code 724 = .ok (.iload_n 3, 1) := by decide +kernel
theorem dL_725 : decode code 725 = .ok (.iconst 2, 1) := by decide +kernel
theorem dL_726 : decode code 726 = .ok (.iadd, 1) := by decide +kernel
theorem dL_727 : decode code 727 = .ok (.iaload, 1) := by decide +kernel
theorem dL_728 : decode code 728 = .ok (.invokevirtual 106, 3) := by decide +kernel
theorem dL_731 : decode code 731 = .ok (.if_icmp .eq 143, 3) := by decide +kernel
theorem dL_734 : decode code 734 = .ok (.iconst 0, 1) := by decide +kernel
theorem dL_735 : decode code 735 = .ok (.ireturn, 1) := by decide +kernel
theorem dL_736 : decode code 736 = .ok (.aload_n 1, 1) := by decide +kernel
theorem dL_737 : decode code 737 = .ok (.aload_n 0, 1) := by decide +kernel
theorem dL_738 : decode code 738 = .ok (.iload_n 3, 1) := by decide +kernel
theorem dL_739 : decode code 739 = .ok (.iconst 1, 1) := by decide +kernel
theorem dL_740 : decode code 740 = .ok (.iadd, 1) := by decide +kernel
theorem dL_741 : decode code 741 = .ok (.iaload, 1) := by decide +kernel
theorem dL_742 : decode code 742 = .ok (.invokevirtual 107, 3) := by decide +kernel
theorem dL_745 : decode code 745 = .ok (.aload_n 2, 1) := by decide +kernel
theorem dL_746 : decode code 746 = .ok (.aload_n 0, 1) := by decide +kernel
theorem dL_747 : decode code 747 = .ok (.iload_n 3, 1) := by decide +kernel
theorem dL_748 : decode code 748 = .ok (.iconst 1, 1) := by decide +kernel
theorem dL_749 : decode code 749 = .ok (.iadd, 1) := by decide +kernel
theorem dL_750 : decode code 750 = .ok (.iaload, 1) := by decide +kernel
theorem dL_751 : decode code 751 = .ok (.invokevirtual 110, 3) := by decide +kernel
theorem dL_754 : decode code 754 = .ok (.if_icmp .eq 120, 3) := by decide +kernel
theorem dL_757 : decode code 757 = .ok (.iconst 0, 1) := by decide +kernel
theorem dL_758 : decode code 758 = .ok (.ireturn, 1) := by decide +kernel
theorem dL_759 : decode code 759 = .ok (.aload_n 1, 1) := by decide +kernel
theorem dL_760 : decode code 760 = .ok (.aload_n 0, 1) := by decide +kernel
theorem dL_761 : decode code 761 = .ok (.iload_n 3, 1) := by decide +kernel
theorem dL_762 : decode code 762 = .ok (.iconst 1, 1) := by decide +kernel
theorem dL_763 : decode code 763 = .ok (.iadd, 1) := by decide +kernel
theorem dL_764 : decode code 764 = .ok (.iaload, 1) := by decide +kernel
theorem dL_765 : decode code 765 = .ok (.invokevirtual 111, 3) := by decide +kernel
theorem dL_768 : decode code 768 = .ok (.aload_n 2, 1) := by decide +kernel
theorem dL_769 : decode code 769 = .ok (.aload_n 0, 1) := by decide +kernel
theorem dL_770 : decode code 770 = .ok (.iload_n 3, 1) := by decide +kernel
theorem dL_771 : decode code 771 = .ok (.iconst 1, 1) := by decide +kernel
theorem dL_772 : decode code 772 = .ok (.iadd, 1) := by decide +kernel
theorem dL_773 : decode code 773 = .ok (.iaload, 1) := by decide +kernel
theorem dL_774 : decode code 774 = .ok (.invokevirtual 114, 3) := by decide +kernel
theorem dL_777 : decode code 777 = .ok (.if_icmp .eq 97, 3) := by decide +kernel
theorem dL_780 : decode code 780 = .ok (.iconst 0, 1) := by decide +kernel
theorem dL_781 : decode code 781 = .ok (.ireturn, 1) := by decide +kernel
theorem dL_782 : decode code 782 = .ok (.aload_n 1, 1) := by decide +kernel
theorem dL_783 : decode code 783 = .ok (.invokevirtual 115, 3) := by decide +kernel
theorem dL_786 : decode code 786 = .ok (.aload_n 2, 1) := by decide +kernel
theorem dL_787 : decode code 787 = .ok (.invokevirtual 119, 3) := by decide +kernel
theorem dL_790 : decode code 790 = .ok (.if_icmp .eq 84, 3) := by decide +kernel
theorem dL_793 : decode code 793 = .ok (.iconst 0, 1) := by decide +kernel
theorem dL_794 : decode code 794 = .ok (.ireturn, 1) := by decide +kernel
theorem dL_795 : decode code 795 = .ok (.aload_n 1, 1) := by decide +kernel
theorem dL_796 : decode code 796 = .ok (.aload_n 0, 1) := by decide +kernel
theorem dL_797 : decode code 797 = .ok (.iload_n 3, 1) := by decide +kernel
theorem dL_798 : decode code 798 = .ok (.iconst 1, 1) := by decide +kernel
theorem dL_799 : decode code 799 = .ok (.iadd, 1) := by decide +kernel
theorem dL_800 : decode code 800 = .ok (.iaload, 1) := by decide +kernel
theorem dL_801 : decode code 801 = .ok (.invokevirtual 120, 3) := by decide +kernel
theorem dL_804 : decode code 804 = .ok (.aload_n 2, 1) := by decide +kernel
theorem dL_805 : decode code 805 = .ok (.aload_n 0, 1) := by decide +kernel
theorem dL_806 : decode code 806 = .ok (.iload_n 3, 1) := by decide +kernel
theorem dL_807 : decode code 807 = .ok (.iconst 1, 1) := by decide +kernel
theorem dL_808 : decode code 808 = .ok (.iadd, 1) := by decide +kernel
theorem dL_809 : decode code 809 = .ok (.iaload, 1) := by decide +kernel
theorem dL_810 : decode code 810 = .ok (.invokevirtual 123, 3) := by decide +kernel
theorem dL_813 : decode code 813 = .ok (.if_icmp .eq 61, 3) := by decide +kernel
theorem dL_816 : decode code 816 = .ok (.iconst 0, 1) := by decide +kernel
theorem dL_817 : decode code 817 = .ok (.ireturn, 1) := by decide +kernel
theorem dL_818 : decode code 818 = .ok (.aload_n 1, 1) := by decide +kernel
theorem dL_819 : decode code 819 = .ok (.aload_n 0, 1) := by decide +kernel
theorem dL_820 : decode code 820 = .ok (.iload_n 3, 1) := by decide +kernel
theorem dL_821 : decode code 821 = .ok (.iconst 1, 1) := by decide +kernel
theorem dL_822 : decode code 822 = .ok (.iadd, 1) := by decide +kernel
theorem dL_823 : decode code 823 = .ok (.iaload, 1) := by decide +kernel
theorem dL_824 : decode code 824 = .ok (.aload_n 0, 1) := by decide +kernel
theorem dL_825 : decode code 825 = .ok (.iload_n 3, 1) := by decide +kernel
theorem dL_826 : decode code 826 = .ok (.iconst 2, 1) := by decide +kernel
theorem dL_827 : decode code 827 = .ok (.iadd, 1) := by decide +kernel
theorem dL_828 : decode code 828 = .ok (.iaload, 1) := by decide +kernel
theorem dL_829 : decode code 829 = .ok (.invokevirtual 124, 3) := by decide +kernel
theorem dL_832 : decode code 832 = .ok (.aload_n 2, 1) := by decide +kernel
theorem dL_833 : decode code 833 = .ok (.aload_n 0, 1) := by decide +kernel
theorem dL_834 : decode code 834 = .ok (.iload_n 3, 1) := by decide +kernel
theorem dL_835 : decode code 835 = .ok (.iconst 1, 1) := by decide +kernel
theorem dL_836 : decode code 836 = .ok (.iadd, 1) := by decide +kernel
theorem dL_837 : decode code 837 = .ok (.iaload, 1) := by decide +kernel
theorem dL_838 : decode code 838 = .ok (.aload_n 0, 1) := by decide +kernel
theorem dL_839 : decode code 839 = .ok (.iload_n 3, 1) := by decide +kernel
theorem dL_840 : decode code 840 = .ok (.iconst 2, 1) := by decide +kernel
theorem dL_841 : decode code 841 = .ok (.iadd, 1) := by decide +kernel
theorem dL_842 : decode code 842 = .ok (.iaload, 1) := by decide +kernel
theorem dL_843 : decode code 843 = .ok (.invokevirtual 127, 3) := by decide +kernel
theorem dL_846 : decode code 846 = .ok (.if_icmp .eq 28, 3) := by decide +kernel
theorem dL_849 : decode code 849 = .ok (.iconst 0, 1) := by decide +kernel
theorem dL_850 : decode code 850 = .ok (.ireturn, 1) := by decide +kernel
theorem dL_851 : decode code 851 = .ok (.aload_n 1, 1) := by decide +kernel
theorem dL_852 : decode code 852 = .ok (.aload_n 0, 1) := by decide +kernel
theorem dL_853 : decode code 853 = .ok (.iload_n 3, 1) := by decide +kernel
theorem dL_854 : decode code 854 = .ok (.iconst 1, 1) := by decide +kernel
theorem dL_855 : decode code 855 = .ok (.iadd, 1) := by decide +kernel
theorem dL_856 : decode code 856 = .ok (.iaload, 1) := by decide +kernel
theorem dL_857 : decode code 857 = .ok (.invokevirtual 128, 3) := by decide +kernel
theorem dL_860 : decode code 860 = .ok (.aload_n 2, 1) := by decide +kernel
theorem dL_861 : decode code 861 = .ok (.aload_n 0, 1) := by decide +kernel
theorem dL_862 : decode code 862 = .ok (.iload_n 3, 1) := by decide +kernel
theorem dL_863 : decode code 863 = .ok (.iconst 1, 1) := by decide +kernel
theorem dL_864 : decode code 864 = .ok (.iadd, 1) := by decide +kernel
theorem dL_865 : decode code 865 = .ok (.iaload, 1) := by decide +kernel
theorem dL_866 : decode code 866 = .ok (.invokevirtual 131, 3) := by decide +kernel
theorem dL_869 : decode code 869 = .ok (.if_icmp .eq 5, 3) := by decide +kernel
theorem dL_872 : decode code 872 = .ok (.iconst 0, 1) := by decide +kernel
theorem dL_873 : decode code 873 = .ok (.ireturn, 1) := by decide +kernel
theorem dL_874 : decode code 874 = .ok (.iinc 3 6, 3) := by decide +kernel
theorem dL_877 : decode code 877 = .ok (.goto (-859), 3) := by decide +kernel
theorem dL_880 : decode code 880 = .ok (.iconst 1, 1) := by decide +kernel
theorem dL_881 : decode code 881 = .ok (.ireturn, 1) := by decide +kernel
