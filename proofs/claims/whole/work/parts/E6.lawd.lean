/-! THE LAW: its instructions -/
theorem dl_0 : decode code 0 = .ok (.new 8, 3) := by decide +kernel
theorem dl_3 : decode code 3 = .ok (.dup, 1) := by decide +kernel
theorem dl_4 : decode code 4 = .ok (.invokespecial 15, 3) := by decide +kernel
theorem dl_7 : decode code 7 = .ok (.astore_n 1, 1) := by decide +kernel
theorem dl_8 : decode code 8 = .ok (.new 16, 3) := by decide +kernel
theorem dl_11 : decode code 11 = .ok (.dup, 1) := by decide +kernel
theorem dl_12 : decode code 12 = .ok (.invokespecial 18, 3) := by decide +kernel
theorem dl_15 : decode code 15 = .ok (.astore_n 2, 1) := by decide +kernel
theorem dl_16 : decode code 16 = .ok (.iconst 1, 1) := by decide +kernel
theorem dl_17 : decode code 17 = .ok (.newarray .long, 2) := by decide +kernel
theorem dl_19 : decode code 19 = .ok (.astore_n 3, 1) := by decide +kernel
theorem dl_20 : decode code 20 = .ok (.iconst 0, 1) := by decide +kernel
theorem dl_21 : decode code 21 = .ok (.istore 4, 2) := by decide +kernel
theorem dl_23 : decode code 23 = .ok (.iload 4, 2) := by decide +kernel
theorem dl_25 : decode code 25 = .ok (.aload_n 0, 1) := by decide +kernel
theorem dl_26 : decode code 26 = .ok (.arraylength, 1) := by decide +kernel
theorem dl_27 : decode code 27 = .ok (.bipush 7, 2) := by decide +kernel
theorem dl_29 : decode code 29 = .ok (.isub, 1) := by decide +kernel
theorem dl_30 : decode code 30 = .ok (.if_icmp .gt 1222, 3) := by decide +kernel
theorem dl_33 : decode code 33 = .ok (.aload_n 0, 1) := by decide +kernel
theorem dl_34 : decode code 34 = .ok (.iload 4, 2) := by decide +kernel
theorem dl_36 : decode code 36 = .ok (.iaload, 1) := by decide +kernel
theorem dl_37 : decode code 37 = .ok (.bipush 31, 2) := by decide +kernel
theorem dl_39 : decode code 39 = .ok (.iand, 1) := by decide +kernel
theorem dl_40 : decode code 40 = .ok (.tableswitch 1206 0 24 #[116, 189, 214, 251, 276, 325, 362, 399, 436, 497, 577, 626, 663, 724, 773, 798, 847, 896, 933, 946, 983, 1008, 1033, 1094, 1181], 116) := by decide +kernel
theorem dl_156 : decode code 156 = .ok (.aload_n 1, 1) := by decide +kernel
theorem dl_157 : decode code 157 = .ok (.aload_n 0, 1) := by decide +kernel
theorem dl_158 : decode code 158 = .ok (.iload 4, 2) := by decide +kernel
theorem dl_160 : decode code 160 = .ok (.iconst 1, 1) := by decide +kernel
theorem dl_161 : decode code 161 = .ok (.iadd, 1) := by decide +kernel
theorem dl_162 : decode code 162 = .ok (.iaload, 1) := by decide +kernel
theorem dl_163 : decode code 163 = .ok (.aload_n 0, 1) := by decide +kernel
theorem dl_164 : decode code 164 = .ok (.iload 4, 2) := by decide +kernel
theorem dl_166 : decode code 166 = .ok (.iconst 2, 1) := by decide +kernel
theorem dl_167 : decode code 167 = .ok (.iadd, 1) := by decide +kernel
theorem dl_168 : decode code 168 = .ok (.iaload, 1) := by decide +kernel
theorem dl_169 : decode code 169 = .ok (.aload_n 0, 1) := by decide +kernel
theorem dl_170 : decode code 170 = .ok (.iload 4, 2) := by decide +kernel
theorem dl_172 : decode code 172 = .ok (.iconst 3, 1) := by decide +kernel
theorem dl_173 : decode code 173 = .ok (.iadd, 1) := by decide +kernel
theorem dl_174 : decode code 174 = .ok (.iaload, 1) := by decide +kernel
theorem dl_175 : decode code 175 = .ok (.aload_n 0, 1) := by decide +kernel
theorem dl_176 : decode code 176 = .ok (.iload 4, 2) := by decide +kernel
theorem dl_178 : decode code 178 = .ok (.iconst 4, 1) := by decide +kernel
theorem dl_179 : decode code 179 = .ok (.iadd, 1) := by decide +kernel
theorem dl_180 : decode code 180 = .ok (.iaload, 1) := by decide +kernel
theorem dl_181 : decode code 181 = .ok (.aload_n 0, 1) := by decide +kernel
theorem dl_182 : decode code 182 = .ok (.iload 4, 2) := by decide +kernel
theorem dl_184 : decode code 184 = .ok (.iconst 5, 1) := by decide +kernel
theorem dl_185 : decode code 185 = .ok (.iadd, 1) := by decide +kernel
theorem dl_186 : decode code 186 = .ok (.iaload, 1) := by decide +kernel
theorem dl_187 : decode code 187 = .ok (.invokevirtual 19, 3) := by decide +kernel
theorem dl_190 : decode code 190 = .ok (.aload_n 2, 1) := by decide +kernel
theorem dl_191 : decode code 191 = .ok (.aload_n 0, 1) := by decide +kernel
theorem dl_192 : decode code 192 = .ok (.iload 4, 2) := by decide +kernel
theorem dl_194 : decode code 194 = .ok (.iconst 1, 1) := by decide +kernel
theorem dl_195 : decode code 195 = .ok (.iadd, 1) := by decide +kernel
theorem dl_196 : decode code 196 = .ok (.iaload, 1) := by decide +kernel
theorem dl_197 : decode code 197 = .ok (.aload_n 0, 1) := by decide +kernel
theorem dl_198 : decode code 198 = .ok (.iload 4, 2) := by decide +kernel
theorem dl_200 : decode code 200 = .ok (.iconst 2, 1) := by decide +kernel
theorem dl_201 : decode code 201 = .ok (.iadd, 1) := by decide +kernel
theorem dl_202 : decode code 202 = .ok (.iaload, 1) := by decide +kernel
theorem dl_203 : decode code 203 = .ok (.aload_n 0, 1) := by decide +kernel
theorem dl_204 : decode code 204 = .ok (.iload 4, 2) := by decide +kernel
theorem dl_206 : decode code 206 = .ok (.iconst 3, 1) := by decide +kernel
theorem dl_207 : decode code 207 = .ok (.iadd, 1) := by decide +kernel
theorem dl_208 : decode code 208 = .ok (.iaload, 1) := by decide +kernel
theorem dl_209 : decode code 209 = .ok (.aload_n 0, 1) := by decide +kernel
theorem dl_210 : decode code 210 = .ok (.iload 4, 2) := by decide +kernel
theorem dl_212 : decode code 212 = .ok (.iconst 4, 1) := by decide +kernel
theorem dl_213 : decode code 213 = .ok (.iadd, 1) := by decide +kernel
theorem dl_214 : decode code 214 = .ok (.iaload, 1) := by decide +kernel
theorem dl_215 : decode code 215 = .ok (.aload_n 0, 1) := by decide +kernel
theorem dl_216 : decode code 216 = .ok (.iload 4, 2) := by decide +kernel
theorem dl_218 : decode code 218 = .ok (.iconst 5, 1) := by decide +kernel
theorem dl_219 : decode code 219 = .ok (.iadd, 1) := by decide +kernel
theorem dl_220 : decode code 220 = .ok (.iaload, 1) := by decide +kernel
theorem dl_221 : decode code 221 = .ok (.invokevirtual 23, 3) := by decide +kernel
theorem dl_224 : decode code 224 = .ok (.if_icmp .eq 1022, 3) := by decide +kernel
theorem dl_227 : decode code 227 = .ok (.iconst 0, 1) := by decide +kernel
theorem dl_228 : decode code 228 = .ok (.ireturn, 1) := by decide +kernel
theorem dl_229 : decode code 229 = .ok (.aload_n 1, 1) := by decide +kernel
theorem dl_230 : decode code 230 = .ok (.aload_n 0, 1) := by decide +kernel
theorem dl_231 : decode code 231 = .ok (.iload 4, 2) := by decide +kernel
theorem dl_233 : decode code 233 = .ok (.iconst 1, 1) := by decide +kernel
theorem dl_234 : decode code 234 = .ok (.iadd, 1) := by decide +kernel
theorem dl_235 : decode code 235 = .ok (.iaload, 1) := by decide +kernel
theorem dl_236 : decode code 236 = .ok (.invokevirtual 24, 3) := by decide +kernel
theorem dl_239 : decode code 239 = .ok (.aload_n 2, 1) := by decide +kernel
theorem dl_240 : decode code 240 = .ok (.aload_n 0, 1) := by decide +kernel
theorem dl_241 : decode code 241 = .ok (.iload 4, 2) := by decide +kernel
theorem dl_243 : decode code 243 = .ok (.iconst 1, 1) := by decide +kernel
theorem dl_244 : decode code 244 = .ok (.iadd, 1) := by decide +kernel
theorem dl_245 : decode code 245 = .ok (.iaload, 1) := by decide +kernel
theorem dl_246 : decode code 246 = .ok (.invokevirtual 28, 3) := by decide +kernel
theorem dl_249 : decode code 249 = .ok (.if_icmp .eq 997, 3) := by decide +kernel
theorem dl_252 : decode code 252 = .ok (.iconst 0, 1) := by decide +kernel
theorem dl_253 : decode code 253 = .ok (.ireturn, 1) := by decide +kernel
theorem dl_254 : decode code 254 = .ok (.aload_n 1, 1) := by decide +kernel
theorem dl_255 : decode code 255 = .ok (.aload_n 0, 1) := by decide +kernel
theorem dl_256 : decode code 256 = .ok (.iload 4, 2) := by decide +kernel
theorem dl_258 : decode code 258 = .ok (.iconst 1, 1) := by decide +kernel
theorem dl_259 : decode code 259 = .ok (.iadd, 1) := by decide +kernel
theorem dl_260 : decode code 260 = .ok (.iaload, 1) := by decide +kernel
theorem dl_261 : decode code 261 = .ok (.aload_n 0, 1) := by decide +kernel
theorem dl_262 : decode code 262 = .ok (.iload 4, 2) := by decide +kernel
theorem dl_264 : decode code 264 = .ok (.iconst 2, 1) := by decide +kernel
theorem dl_265 : decode code 265 = .ok (.iadd, 1) := by decide +kernel
theorem dl_266 : decode code 266 = .ok (.iaload, 1) := by decide +kernel
theorem dl_267 : decode code 267 = .ok (.invokevirtual 29, 3) := by decide +kernel
theorem dl_270 : decode code 270 = .ok (.aload_n 2, 1) := by decide +kernel
theorem dl_271 : decode code 271 = .ok (.aload_n 0, 1) := by decide +kernel
theorem dl_272 : decode code 272 = .ok (.iload 4, 2) := by decide +kernel
theorem dl_274 : decode code 274 = .ok (.iconst 1, 1) := by decide +kernel
theorem dl_275 : decode code 275 = .ok (.iadd, 1) := by decide +kernel
theorem dl_276 : decode code 276 = .ok (.iaload, 1) := by decide +kernel
theorem dl_277 : decode code 277 = .ok (.aload_n 0, 1) := by decide +kernel
theorem dl_278 : decode code 278 = .ok (.iload 4, 2) := by decide +kernel
theorem dl_280 : decode code 280 = .ok (.iconst 2, 1) := by decide +kernel
theorem dl_281 : decode code 281 = .ok (.iadd, 1) := by decide +kernel
theorem dl_282 : decode code 282 = .ok (.iaload, 1) := by decide +kernel
theorem dl_283 : decode code 283 = .ok (.invokevirtual 33, 3) := by decide +kernel
theorem dl_286 : decode code 286 = .ok (.if_icmp .eq 960, 3) := by decide +kernel
theorem dl_289 : decode code 289 = .ok (.iconst 0, 1) := by decide +kernel
theorem dl_290 : decode code 290 = .ok (.ireturn, 1) := by decide +kernel
theorem dl_291 : decode code 291 = .ok (.aload_n 1, 1) := by decide +kernel
theorem dl_292 : decode code 292 = .ok (.aload_n 0, 1) := by decide +kernel
theorem dl_293 : decode code 293 = .ok (.iload 4, 2) := by decide +kernel
theorem dl_295 : decode code 295 = .ok (.iconst 1, 1) := by decide +kernel
theorem dl_296 : decode code 296 = .ok (.iadd, 1) := by decide +kernel
theorem dl_297 : decode code 297 = .ok (.iaload, 1) := by decide +kernel
theorem dl_298 : decode code 298 = .ok (.invokevirtual 34, 3) := by decide +kernel
theorem dl_301 : decode code 301 = .ok (.aload_n 2, 1) := by decide +kernel
theorem dl_302 : decode code 302 = .ok (.aload_n 0, 1) := by decide +kernel
theorem dl_303 : decode code 303 = .ok (.iload 4, 2) := by decide +kernel
theorem dl_305 : decode code 305 = .ok (.iconst 1, 1) := by decide +kernel
theorem dl_306 : decode code 306 = .ok (.iadd, 1) := by decide +kernel
theorem dl_307 : decode code 307 = .ok (.iaload, 1) := by decide +kernel
theorem dl_308 : decode code 308 = .ok (.invokevirtual 37, 3) := by decide +kernel
theorem dl_311 : decode code 311 = .ok (.if_icmp .eq 935, 3) := by decide +kernel
theorem dl_314 : decode code 314 = .ok (.iconst 0, 1) := by decide +kernel
theorem dl_315 : decode code 315 = .ok (.ireturn, 1) := by decide +kernel
theorem dl_316 : decode code 316 = .ok (.aload_n 1, 1) := by decide +kernel
theorem dl_317 : decode code 317 = .ok (.aload_n 0, 1) := by decide +kernel
theorem dl_318 : decode code 318 = .ok (.iload 4, 2) := by decide +kernel
theorem dl_320 : decode code 320 = .ok (.iconst 1, 1) := by decide +kernel
theorem dl_321 : decode code 321 = .ok (.iadd, 1) := by decide +kernel
theorem dl_322 : decode code 322 = .ok (.iaload, 1) := by decide +kernel
theorem dl_323 : decode code 323 = .ok (.aload_n 0, 1) := by decide +kernel
theorem dl_324 : decode code 324 = .ok (.iload 4, 2) := by decide +kernel
theorem dl_326 : decode code 326 = .ok (.iconst 2, 1) := by decide +kernel
theorem dl_327 : decode code 327 = .ok (.iadd, 1) := by decide +kernel
theorem dl_328 : decode code 328 = .ok (.iaload, 1) := by decide +kernel
theorem dl_329 : decode code 329 = .ok (.aload_n 0, 1) := by decide +kernel
theorem dl_330 : decode code 330 = .ok (.iload 4, 2) := by decide +kernel
theorem dl_332 : decode code 332 = .ok (.iconst 3, 1) := by decide +kernel
theorem dl_333 : decode code 333 = .ok (.iadd, 1) := by decide +kernel
theorem dl_334 : decode code 334 = .ok (.iaload, 1) := by decide +kernel
theorem dl_335 : decode code 335 = .ok (.invokevirtual 38, 3) := by decide +kernel
theorem dl_338 : decode code 338 = .ok (.aload_n 2, 1) := by decide +kernel
theorem dl_339 : decode code 339 = .ok (.aload_n 0, 1) := by decide +kernel
theorem dl_340 : decode code 340 = .ok (.iload 4, 2) := by decide +kernel
theorem dl_342 : decode code 342 = .ok (.iconst 1, 1) := by decide +kernel
theorem dl_343 : decode code 343 = .ok (.iadd, 1) := by decide +kernel
theorem dl_344 : decode code 344 = .ok (.iaload, 1) := by decide +kernel
theorem dl_345 : decode code 345 = .ok (.aload_n 0, 1) := by decide +kernel
theorem dl_346 : decode code 346 = .ok (.iload 4, 2) := by decide +kernel
theorem dl_348 : decode code 348 = .ok (.iconst 2, 1) := by decide +kernel
theorem dl_349 : decode code 349 = .ok (.iadd, 1) := by decide +kernel
theorem dl_350 : decode code 350 = .ok (.iaload, 1) := by decide +kernel
theorem dl_351 : decode code 351 = .ok (.aload_n 0, 1) := by decide +kernel
theorem dl_352 : decode code 352 = .ok (.iload 4, 2) := by decide +kernel
theorem dl_354 : decode code 354 = .ok (.iconst 3, 1) := by decide +kernel
theorem dl_355 : decode code 355 = .ok (.iadd, 1) := by decide +kernel
theorem dl_356 : decode code 356 = .ok (.iaload, 1) := by decide +kernel
theorem dl_357 : decode code 357 = .ok (.invokevirtual 41, 3) := by decide +kernel
theorem dl_360 : decode code 360 = .ok (.if_icmp .eq 886, 3) := by decide +kernel
theorem dl_363 : decode code 363 = .ok (.iconst 0, 1) := by decide +kernel
theorem dl_364 : decode code 364 = .ok (.ireturn, 1) := by decide +kernel
theorem dl_365 : decode code 365 = .ok (.aload_n 1, 1) := by decide +kernel
theorem dl_366 : decode code 366 = .ok (.aload_n 0, 1) := by decide +kernel
theorem dl_367 : decode code 367 = .ok (.iload 4, 2) := by decide +kernel
theorem dl_369 : decode code 369 = .ok (.iconst 1, 1) := by decide +kernel
theorem dl_370 : decode code 370 = .ok (.iadd, 1) := by decide +kernel
theorem dl_371 : decode code 371 = .ok (.iaload, 1) := by decide +kernel
theorem dl_372 : decode code 372 = .ok (.aload_n 0, 1) := by decide +kernel
theorem dl_373 : decode code 373 = .ok (.iload 4, 2) := by decide +kernel
theorem dl_375 : decode code 375 = .ok (.iconst 2, 1) := by decide +kernel
theorem dl_376 : decode code 376 = .ok (.iadd, 1) := by decide +kernel
theorem dl_377 : decode code 377 = .ok (.iaload, 1) := by decide +kernel
theorem dl_378 : decode code 378 = .ok (.invokevirtual 42, 3) := by decide +kernel
theorem dl_381 : decode code 381 = .ok (.aload_n 2, 1) := by decide +kernel
theorem dl_382 : decode code 382 = .ok (.aload_n 0, 1) := by decide +kernel
theorem dl_383 : decode code 383 = .ok (.iload 4, 2) := by decide +kernel
theorem dl_385 : decode code 385 = .ok (.iconst 1, 1) := by decide +kernel
theorem dl_386 : decode code 386 = .ok (.iadd, 1) := by decide +kernel
theorem dl_387 : decode code 387 = .ok (.iaload, 1) := by decide +kernel
theorem dl_388 : decode code 388 = .ok (.aload_n 0, 1) := by decide +kernel
theorem dl_389 : decode code 389 = .ok (.iload 4, 2) := by decide +kernel
theorem dl_391 : decode code 391 = .ok (.iconst 2, 1) := by decide +kernel
theorem dl_392 : decode code 392 = .ok (.iadd, 1) := by decide +kernel
theorem dl_393 : decode code 393 = .ok (.iaload, 1) := by decide +kernel
theorem dl_394 : decode code 394 = .ok (.invokevirtual 45, 3) := by decide +kernel
theorem dl_397 : decode code 397 = .ok (.if_icmp .eq 849, 3) := by decide +kernel
theorem dl_400 : decode code 400 = .ok (.iconst 0, 1) := by decide +kernel
theorem dl_401 : decode code 401 = .ok (.ireturn, 1) := by decide +kernel
theorem dl_402 : decode code 402 = .ok (.aload_n 1, 1) := by decide +kernel
theorem dl_403 : decode code 403 = .ok (.aload_n 0, 1) := by decide +kernel
theorem dl_404 : decode code 404 = .ok (.iload 4, 2) := by decide +kernel
theorem dl_406 : decode code 406 = .ok (.iconst 1, 1) := by decide +kernel
theorem dl_407 : decode code 407 = .ok (.iadd, 1) := by decide +kernel
theorem dl_408 : decode code 408 = .ok (.iaload, 1) := by decide +kernel
theorem dl_409 : decode code 409 = .ok (.aload_n 0, 1) := by decide +kernel
theorem dl_410 : decode code 410 = .ok (.iload 4, 2) := by decide +kernel
theorem dl_412 : decode code 412 = .ok (.iconst 2, 1) := by decide +kernel
theorem dl_413 : decode code 413 = .ok (.iadd, 1) := by decide +kernel
theorem dl_414 : decode code 414 = .ok (.iaload, 1) := by decide +kernel
theorem dl_415 : decode code 415 = .ok (.invokevirtual 46, 3) := by decide +kernel
theorem dl_418 : decode code 418 = .ok (.aload_n 2, 1) := by decide +kernel
theorem dl_419 : decode code 419 = .ok (.aload_n 0, 1) := by decide +kernel
theorem dl_420 : decode code 420 = .ok (.iload 4, 2) := by decide +kernel
theorem dl_422 : decode code 422 = .ok (.iconst 1, 1) := by decide +kernel
theorem dl_423 : decode code 423 = .ok (.iadd, 1) := by decide +kernel
theorem dl_424 : decode code 424 = .ok (.iaload, 1) := by decide +kernel
theorem dl_425 : decode code 425 = .ok (.aload_n 0, 1) := by decide +kernel
theorem dl_426 : decode code 426 = .ok (.iload 4, 2) := by decide +kernel
theorem dl_428 : decode code 428 = .ok (.iconst 2, 1) := by decide +kernel
theorem dl_429 : decode code 429 = .ok (.iadd, 1) := by decide +kernel
theorem dl_430 : decode code 430 = .ok (.iaload, 1) := by decide +kernel
theorem dl_431 : decode code 431 = .ok (.invokevirtual 49, 3) := by decide +kernel
theorem dl_434 : decode code 434 = .ok (.if_icmp .eq 812, 3) := by decide +kernel
theorem dl_437 : decode code 437 = .ok (.iconst 0, 1) := by decide +kernel
theorem dl_438 : decode code 438 = .ok (.ireturn, 1) := by decide +kernel
theorem dl_439 : decode code 439 = .ok (.aload_n 1, 1) := by decide +kernel
theorem dl_440 : decode code 440 = .ok (.aload_n 0, 1) := by decide +kernel
theorem dl_441 : decode code 441 = .ok (.iload 4, 2) := by decide +kernel
theorem dl_443 : decode code 443 = .ok (.iconst 1, 1) := by decide +kernel
theorem dl_444 : decode code 444 = .ok (.iadd, 1) := by decide +kernel
theorem dl_445 : decode code 445 = .ok (.iaload, 1) := by decide +kernel
theorem dl_446 : decode code 446 = .ok (.aload_n 0, 1) := by decide +kernel
theorem dl_447 : decode code 447 = .ok (.iload 4, 2) := by decide +kernel
theorem dl_449 : decode code 449 = .ok (.iconst 2, 1) := by decide +kernel
theorem dl_450 : decode code 450 = .ok (.iadd, 1) := by decide +kernel
theorem dl_451 : decode code 451 = .ok (.iaload, 1) := by decide +kernel
theorem dl_452 : decode code 452 = .ok (.invokevirtual 50, 3) := by decide +kernel
theorem dl_455 : decode code 455 = .ok (.aload_n 2, 1) := by decide +kernel
theorem dl_456 : decode code 456 = .ok (.aload_n 0, 1) := by decide +kernel
theorem dl_457 : decode code 457 = .ok (.iload 4, 2) := by decide +kernel
theorem dl_459 : decode code 459 = .ok (.iconst 1, 1) := by decide +kernel
theorem dl_460 : decode code 460 = .ok (.iadd, 1) := by decide +kernel
theorem dl_461 : decode code 461 = .ok (.iaload, 1) := by decide +kernel
theorem dl_462 : decode code 462 = .ok (.aload_n 0, 1) := by decide +kernel
theorem dl_463 : decode code 463 = .ok (.iload 4, 2) := by decide +kernel
theorem dl_465 : decode code 465 = .ok (.iconst 2, 1) := by decide +kernel
theorem dl_466 : decode code 466 = .ok (.iadd, 1) := by decide +kernel
theorem dl_467 : decode code 467 = .ok (.iaload, 1) := by decide +kernel
theorem dl_468 : decode code 468 = .ok (.invokevirtual 53, 3) := by decide +kernel
theorem dl_471 : decode code 471 = .ok (.if_icmp .eq 775, 3) := by decide +kernel
theorem dl_474 : decode code 474 = .ok (.iconst 0, 1) := by decide +kernel
theorem dl_475 : decode code 475 = .ok (.ireturn, 1) := by decide +kernel
theorem dl_476 : decode code 476 = .ok (.aload_n 1, 1) := by decide +kernel
theorem dl_477 : decode code 477 = .ok (.aload_n 0, 1) := by decide +kernel
theorem dl_478 : decode code 478 = .ok (.iload 4, 2) := by decide +kernel
theorem dl_480 : decode code 480 = .ok (.iconst 1, 1) := by decide +kernel
theorem dl_481 : decode code 481 = .ok (.iadd, 1) := by decide +kernel
theorem dl_482 : decode code 482 = .ok (.iaload, 1) := by decide +kernel
theorem dl_483 : decode code 483 = .ok (.aload_n 0, 1) := by decide +kernel
theorem dl_484 : decode code 484 = .ok (.iload 4, 2) := by decide +kernel
theorem dl_486 : decode code 486 = .ok (.iconst 2, 1) := by decide +kernel
theorem dl_487 : decode code 487 = .ok (.iadd, 1) := by decide +kernel
theorem dl_488 : decode code 488 = .ok (.iaload, 1) := by decide +kernel
theorem dl_489 : decode code 489 = .ok (.aload_n 0, 1) := by decide +kernel
theorem dl_490 : decode code 490 = .ok (.iload 4, 2) := by decide +kernel
theorem dl_492 : decode code 492 = .ok (.iconst 3, 1) := by decide +kernel
theorem dl_493 : decode code 493 = .ok (.iadd, 1) := by decide +kernel
theorem dl_494 : decode code 494 = .ok (.iaload, 1) := by decide +kernel
theorem dl_495 : decode code 495 = .ok (.aload_n 0, 1) := by decide +kernel
theorem dl_496 : decode code 496 = .ok (.iload 4, 2) := by decide +kernel
theorem dl_498 : decode code 498 = .ok (.iconst 4, 1) := by decide +kernel
theorem dl_499 : decode code 499 = .ok (.iadd, 1) := by decide +kernel
theorem dl_500 : decode code 500 = .ok (.iaload, 1) := by decide +kernel
theorem dl_501 : decode code 501 = .ok (.invokevirtual 54, 3) := by decide +kernel
theorem dl_504 : decode code 504 = .ok (.aload_n 2, 1) := by decide +kernel
theorem dl_505 : decode code 505 = .ok (.aload_n 0, 1) := by decide +kernel
theorem dl_506 : decode code 506 = .ok (.iload 4, 2) := by decide +kernel
theorem dl_508 : decode code 508 = .ok (.iconst 1, 1) := by decide +kernel
theorem dl_509 : decode code 509 = .ok (.iadd, 1) := by decide +kernel
theorem dl_510 : decode code 510 = .ok (.iaload, 1) := by decide +kernel
theorem dl_511 : decode code 511 = .ok (.aload_n 0, 1) := by decide +kernel
theorem dl_512 : decode code 512 = .ok (.iload 4, 2) := by decide +kernel
theorem dl_514 : decode code 514 = .ok (.iconst 2, 1) := by decide +kernel
theorem dl_515 : decode code 515 = .ok (.iadd, 1) := by decide +kernel
theorem dl_516 : decode code 516 = .ok (.iaload, 1) := by decide +kernel
theorem dl_517 : decode code 517 = .ok (.aload_n 0, 1) := by decide +kernel
theorem dl_518 : decode code 518 = .ok (.iload 4, 2) := by decide +kernel
theorem dl_520 : decode code 520 = .ok (.iconst 3, 1) := by decide +kernel
theorem dl_521 : decode code 521 = .ok (.iadd, 1) := by decide +kernel
theorem dl_522 : decode code 522 = .ok (.iaload, 1) := by decide +kernel
theorem dl_523 : decode code 523 = .ok (.aload_n 0, 1) := by decide +kernel
theorem dl_524 : decode code 524 = .ok (.iload 4, 2) := by decide +kernel
theorem dl_526 : decode code 526 = .ok (.iconst 4, 1) := by decide +kernel
theorem dl_527 : decode code 527 = .ok (.iadd, 1) := by decide +kernel
theorem dl_528 : decode code 528 = .ok (.iaload, 1) := by decide +kernel
theorem dl_529 : decode code 529 = .ok (.invokevirtual 58, 3) := by decide +kernel
theorem dl_532 : decode code 532 = .ok (.if_icmp .eq 714, 3) := by decide +kernel
theorem dl_535 : decode code 535 = .ok (.iconst 0, 1) := by decide +kernel
theorem dl_536 : decode code 536 = .ok (.ireturn, 1) := by decide +kernel
theorem dl_537 : decode code 537 = .ok (.aload_n 1, 1) := by decide +kernel
theorem dl_538 : decode code 538 = .ok (.aload_n 0, 1) := by decide +kernel
theorem dl_539 : decode code 539 = .ok (.iload 4, 2) := by decide +kernel
theorem dl_541 : decode code 541 = .ok (.iconst 1, 1) := by decide +kernel
theorem dl_542 : decode code 542 = .ok (.iadd, 1) := by decide +kernel
theorem dl_543 : decode code 543 = .ok (.iaload, 1) := by decide +kernel
theorem dl_544 : decode code 544 = .ok (.aload_n 0, 1) := by decide +kernel
theorem dl_545 : decode code 545 = .ok (.iload 4, 2) := by decide +kernel
theorem dl_547 : decode code 547 = .ok (.iconst 2, 1) := by decide +kernel
theorem dl_548 : decode code 548 = .ok (.iadd, 1) := by decide +kernel
theorem dl_549 : decode code 549 = .ok (.iaload, 1) := by decide +kernel
theorem dl_550 : decode code 550 = .ok (.aload_n 0, 1) := by decide +kernel
theorem dl_551 : decode code 551 = .ok (.iload 4, 2) := by decide +kernel
theorem dl_553 : decode code 553 = .ok (.iconst 3, 1) := by decide +kernel
theorem dl_554 : decode code 554 = .ok (.iadd, 1) := by decide +kernel
theorem dl_555 : decode code 555 = .ok (.iaload, 1) := by decide +kernel
theorem dl_556 : decode code 556 = .ok (.aload_n 3, 1) := by decide +kernel
theorem dl_557 : decode code 557 = .ok (.invokestatic 59, 3) := by decide +kernel
theorem dl_560 : decode code 560 = .ok (.istore 5, 2) := by decide +kernel
theorem dl_562 : decode code 562 = .ok (.aload_n 2, 1) := by decide +kernel
theorem dl_563 : decode code 563 = .ok (.aload_n 0, 1) := by decide +kernel
theorem dl_564 : decode code 564 = .ok (.iload 4, 2) := by decide +kernel
theorem dl_566 : decode code 566 = .ok (.iconst 1, 1) := by decide +kernel
theorem dl_567 : decode code 567 = .ok (.iadd, 1) := by decide +kernel
theorem dl_568 : decode code 568 = .ok (.iaload, 1) := by decide +kernel
theorem dl_569 : decode code 569 = .ok (.aload_n 0, 1) := by decide +kernel
theorem dl_570 : decode code 570 = .ok (.iload 4, 2) := by decide +kernel
theorem dl_572 : decode code 572 = .ok (.iconst 2, 1) := by decide +kernel
theorem dl_573 : decode code 573 = .ok (.iadd, 1) := by decide +kernel
theorem dl_574 : decode code 574 = .ok (.iaload, 1) := by decide +kernel
theorem dl_575 : decode code 575 = .ok (.aload_n 0, 1) := by decide +kernel
theorem dl_576 : decode code 576 = .ok (.iload 4, 2) := by decide +kernel
theorem dl_578 : decode code 578 = .ok (.iconst 3, 1) := by decide +kernel
theorem dl_579 : decode code 579 = .ok (.iadd, 1) := by decide +kernel
theorem dl_580 : decode code 580 = .ok (.iaload, 1) := by decide +kernel
theorem dl_581 : decode code 581 = .ok (.invokevirtual 64, 3) := by decide +kernel
theorem dl_584 : decode code 584 = .ok (.istore 6, 2) := by decide +kernel
theorem dl_586 : decode code 586 = .ok (.aload_n 2, 1) := by decide +kernel
theorem dl_587 : decode code 587 = .ok (.invokevirtual 65, 3) := by decide +kernel
theorem dl_590 : decode code 590 = .ok (.iload 5, 2) := by decide +kernel
theorem dl_592 : decode code 592 = .ok (.if_icmp .eq 5, 3) := by decide +kernel
theorem dl_595 : decode code 595 = .ok (.iconst 0, 1) := by decide +kernel
theorem dl_596 : decode code 596 = .ok (.ireturn, 1) := by decide +kernel
theorem dl_597 : decode code 597 = .ok (.iload 5, 2) := by decide +kernel
theorem dl_599 : decode code 599 = .ok (.ifCond .ne 15, 3) := by decide +kernel
theorem dl_602 : decode code 602 = .ok (.aload_n 3, 1) := by decide +kernel
theorem dl_603 : decode code 603 = .ok (.iconst 0, 1) := by decide +kernel
theorem dl_604 : decode code 604 = .ok (.laload, 1) := by decide +kernel
theorem dl_605 : decode code 605 = .ok (.iload 6, 2) := by decide +kernel
theorem dl_607 : decode code 607 = .ok (.i2l, 1) := by decide +kernel
theorem dl_608 : decode code 608 = .ok (.lcmp, 1) := by decide +kernel
theorem dl_609 : decode code 609 = .ok (.ifCond .eq 5, 3) := by decide +kernel
theorem dl_612 : decode code 612 = .ok (.iconst 0, 1) := by decide +kernel
theorem dl_613 : decode code 613 = .ok (.ireturn, 1) := by decide +kernel
theorem dl_614 : decode code 614 = .ok (.goto 632, 3) := by decide +kernel
theorem dl_617 : decode code 617 = .ok (.aload_n 1, 1) := by decide +kernel
theorem dl_618 : decode code 618 = .ok (.aload_n 0, 1) := by decide +kernel
theorem dl_619 : decode code 619 = .ok (.iload 4, 2) := by decide +kernel
theorem dl_621 : decode code 621 = .ok (.iconst 1, 1) := by decide +kernel
theorem dl_622 : decode code 622 = .ok (.iadd, 1) := by decide +kernel
theorem dl_623 : decode code 623 = .ok (.iaload, 1) := by decide +kernel
theorem dl_624 : decode code 624 = .ok (.aload_n 0, 1) := by decide +kernel
theorem dl_625 : decode code 625 = .ok (.iload 4, 2) := by decide +kernel
theorem dl_627 : decode code 627 = .ok (.iconst 2, 1) := by decide +kernel
theorem dl_628 : decode code 628 = .ok (.iadd, 1) := by decide +kernel
theorem dl_629 : decode code 629 = .ok (.iaload, 1) := by decide +kernel
theorem dl_630 : decode code 630 = .ok (.aload_n 0, 1) := by decide +kernel
theorem dl_631 : decode code 631 = .ok (.iload 4, 2) := by decide +kernel
theorem dl_633 : decode code 633 = .ok (.iconst 3, 1) := by decide +kernel
theorem dl_634 : decode code 634 = .ok (.iadd, 1) := by decide +kernel
theorem dl_635 : decode code 635 = .ok (.iaload, 1) := by decide +kernel
theorem dl_636 : decode code 636 = .ok (.invokevirtual 69, 3) := by decide +kernel
theorem dl_639 : decode code 639 = .ok (.aload_n 2, 1) := by decide +kernel
theorem dl_640 : decode code 640 = .ok (.aload_n 0, 1) := by decide +kernel
theorem dl_641 : decode code 641 = .ok (.iload 4, 2) := by decide +kernel
theorem dl_643 : decode code 643 = .ok (.iconst 1, 1) := by decide +kernel
theorem dl_644 : decode code 644 = .ok (.iadd, 1) := by decide +kernel
theorem dl_645 : decode code 645 = .ok (.iaload, 1) := by decide +kernel
theorem dl_646 : decode code 646 = .ok (.aload_n 0, 1) := by decide +kernel
theorem dl_647 : decode code 647 = .ok (.iload 4, 2) := by decide +kernel
theorem dl_649 : decode code 649 = .ok (.iconst 2, 1) := by decide +kernel
theorem dl_650 : decode code 650 = .ok (.iadd, 1) := by decide +kernel
theorem dl_651 : decode code 651 = .ok (.iaload, 1) := by decide +kernel
theorem dl_652 : decode code 652 = .ok (.aload_n 0, 1) := by decide +kernel
theorem dl_653 : decode code 653 = .ok (.iload 4, 2) := by decide +kernel
theorem dl_655 : decode code 655 = .ok (.iconst 3, 1) := by decide +kernel
theorem dl_656 : decode code 656 = .ok (.iadd, 1) := by decide +kernel
theorem dl_657 : decode code 657 = .ok (.iaload, 1) := by decide +kernel
theorem dl_658 : decode code 658 = .ok (.invokevirtual 72, 3) := by decide +kernel
theorem dl_661 : decode code 661 = .ok (.if_icmp .eq 585, 3) := by decide +kernel
theorem dl_664 : decode code 664 = .ok (.iconst 0, 1) := by decide +kernel
theorem dl_665 : decode code 665 = .ok (.ireturn, 1) := by decide +kernel
theorem dl_666 : decode code 666 = .ok (.aload_n 1, 1) := by decide +kernel
theorem dl_667 : decode code 667 = .ok (.aload_n 0, 1) := by decide +kernel
theorem dl_668 : decode code 668 = .ok (.iload 4, 2) := by decide +kernel
theorem dl_670 : decode code 670 = .ok (.iconst 1, 1) := by decide +kernel
theorem dl_671 : decode code 671 = .ok (.iadd, 1) := by decide +kernel
theorem dl_672 : decode code 672 = .ok (.iaload, 1) := by decide +kernel
theorem dl_673 : decode code 673 = .ok (.aload_n 0, 1) := by decide +kernel
theorem dl_674 : decode code 674 = .ok (.iload 4, 2) := by decide +kernel
theorem dl_676 : decode code 676 = .ok (.iconst 2, 1) := by decide +kernel
theorem dl_677 : decode code 677 = .ok (.iadd, 1) := by decide +kernel
theorem dl_678 : decode code 678 = .ok (.iaload, 1) := by decide +kernel
theorem dl_679 : decode code 679 = .ok (.invokevirtual 73, 3) := by decide +kernel
theorem dl_682 : decode code 682 = .ok (.aload_n 2, 1) := by decide +kernel
theorem dl_683 : decode code 683 = .ok (.aload_n 0, 1) := by decide +kernel
theorem dl_684 : decode code 684 = .ok (.iload 4, 2) := by decide +kernel
theorem dl_686 : decode code 686 = .ok (.iconst 1, 1) := by decide +kernel
theorem dl_687 : decode code 687 = .ok (.iadd, 1) := by decide +kernel
theorem dl_688 : decode code 688 = .ok (.iaload, 1) := by decide +kernel
theorem dl_689 : decode code 689 = .ok (.aload_n 0, 1) := by decide +kernel
theorem dl_690 : decode code 690 = .ok (.iload 4, 2) := by decide +kernel
theorem dl_692 : decode code 692 = .ok (.iconst 2, 1) := by decide +kernel
theorem dl_693 : decode code 693 = .ok (.iadd, 1) := by decide +kernel
theorem dl_694 : decode code 694 = .ok (.iaload, 1) := by decide +kernel
theorem dl_695 : decode code 695 = .ok (.invokevirtual 76, 3) := by decide +kernel
theorem dl_698 : decode code 698 = .ok (.if_icmp .eq 548, 3) := by decide +kernel
theorem dl_701 : decode code 701 = .ok (.iconst 0, 1) := by decide +kernel
theorem dl_702 : decode code 702 = .ok (.ireturn, 1) := by decide +kernel
theorem dl_703 : decode code 703 = .ok (.aload_n 1, 1) := by decide +kernel
theorem dl_704 : decode code 704 = .ok (.aload_n 0, 1) := by decide +kernel
theorem dl_705 : decode code 705 = .ok (.iload 4, 2) := by decide +kernel
theorem dl_707 : decode code 707 = .ok (.iconst 1, 1) := by decide +kernel
theorem dl_708 : decode code 708 = .ok (.iadd, 1) := by decide +kernel
theorem dl_709 : decode code 709 = .ok (.iaload, 1) := by decide +kernel
theorem dl_710 : decode code 710 = .ok (.aload_n 0, 1) := by decide +kernel
theorem dl_711 : decode code 711 = .ok (.iload 4, 2) := by decide +kernel
theorem dl_713 : decode code 713 = .ok (.iconst 2, 1) := by decide +kernel
theorem dl_714 : decode code 714 = .ok (.iadd, 1) := by decide +kernel
theorem dl_715 : decode code 715 = .ok (.iaload, 1) := by decide +kernel
theorem dl_716 : decode code 716 = .ok (.aload_n 0, 1) := by decide +kernel
theorem dl_717 : decode code 717 = .ok (.iload 4, 2) := by decide +kernel
theorem dl_719 : decode code 719 = .ok (.iconst 3, 1) := by decide +kernel
theorem dl_720 : decode code 720 = .ok (.iadd, 1) := by decide +kernel
theorem dl_721 : decode code 721 = .ok (.iaload, 1) := by decide +kernel
theorem dl_722 : decode code 722 = .ok (.aload_n 0, 1) := by decide +kernel
theorem dl_723 : decode code 723 = .ok (.iload 4, 2) := by decide +kernel
theorem dl_725 : decode code 725 = .ok (.iconst 4, 1) := by decide +kernel
theorem dl_726 : decode code 726 = .ok (.iadd, 1) := by decide +kernel
theorem dl_727 : decode code 727 = .ok (.iaload, 1) := by decide +kernel
theorem dl_728 : decode code 728 = .ok (.invokevirtual 77, 3) := by decide +kernel
theorem dl_731 : decode code 731 = .ok (.aload_n 2, 1) := by decide +kernel
theorem dl_732 : decode code 732 = .ok (.aload_n 0, 1) := by decide +kernel
theorem dl_733 : decode code 733 = .ok (.iload 4, 2) := by decide +kernel
theorem dl_735 : decode code 735 = .ok (.iconst 1, 1) := by decide +kernel
theorem dl_736 : decode code 736 = .ok (.iadd, 1) := by decide +kernel
theorem dl_737 : decode code 737 = .ok (.iaload, 1) := by decide +kernel
theorem dl_738 : decode code 738 = .ok (.aload_n 0, 1) := by decide +kernel
theorem dl_739 : decode code 739 = .ok (.iload 4, 2) := by decide +kernel
theorem dl_741 : decode code 741 = .ok (.iconst 2, 1) := by decide +kernel
theorem dl_742 : decode code 742 = .ok (.iadd, 1) := by decide +kernel
theorem dl_743 : decode code 743 = .ok (.iaload, 1) := by decide +kernel
theorem dl_744 : decode code 744 = .ok (.aload_n 0, 1) := by decide +kernel
theorem dl_745 : decode code 745 = .ok (.iload 4, 2) := by decide +kernel
theorem dl_747 : decode code 747 = .ok (.iconst 3, 1) := by decide +kernel
theorem dl_748 : decode code 748 = .ok (.iadd, 1) := by decide +kernel
theorem dl_749 : decode code 749 = .ok (.iaload, 1) := by decide +kernel
theorem dl_750 : decode code 750 = .ok (.aload_n 0, 1) := by decide +kernel
theorem dl_751 : decode code 751 = .ok (.iload 4, 2) := by decide +kernel
theorem dl_753 : decode code 753 = .ok (.iconst 4, 1) := by decide +kernel
theorem dl_754 : decode code 754 = .ok (.iadd, 1) := by decide +kernel
theorem dl_755 : decode code 755 = .ok (.iaload, 1) := by decide +kernel
theorem dl_756 : decode code 756 = .ok (.invokevirtual 80, 3) := by decide +kernel
theorem dl_759 : decode code 759 = .ok (.if_icmp .eq 487, 3) := by decide +kernel
theorem dl_762 : decode code 762 = .ok (.iconst 0, 1) := by decide +kernel
theorem dl_763 : decode code 763 = .ok (.ireturn, 1) := by decide +kernel
theorem dl_764 : decode code 764 = .ok (.aload_n 1, 1) := by decide +kernel
theorem dl_765 : decode code 765 = .ok (.aload_n 0, 1) := by decide +kernel
theorem dl_766 : decode code 766 = .ok (.iload 4, 2) := by decide +kernel
theorem dl_768 : decode code 768 = .ok (.iconst 1, 1) := by decide +kernel
theorem dl_769 : decode code 769 = .ok (.iadd, 1) := by decide +kernel
theorem dl_770 : decode code 770 = .ok (.iaload, 1) := by decide +kernel
theorem dl_771 : decode code 771 = .ok (.aload_n 0, 1) := by decide +kernel
theorem dl_772 : decode code 772 = .ok (.iload 4, 2) := by decide +kernel
theorem dl_774 : decode code 774 = .ok (.iconst 2, 1) := by decide +kernel
theorem dl_775 : decode code 775 = .ok (.iadd, 1) := by decide +kernel
theorem dl_776 : decode code 776 = .ok (.iaload, 1) := by decide +kernel
theorem dl_777 : decode code 777 = .ok (.aload_n 0, 1) := by decide +kernel
theorem dl_778 : decode code 778 = .ok (.iload 4, 2) := by decide +kernel
theorem dl_780 : decode code 780 = .ok (.iconst 3, 1) := by decide +kernel
theorem dl_781 : decode code 781 = .ok (.iadd, 1) := by decide +kernel
theorem dl_782 : decode code 782 = .ok (.iaload, 1) := by decide +kernel
theorem dl_783 : decode code 783 = .ok (.invokevirtual 81, 3) := by decide +kernel
theorem dl_786 : decode code 786 = .ok (.aload_n 2, 1) := by decide +kernel
theorem dl_787 : decode code 787 = .ok (.aload_n 0, 1) := by decide +kernel
theorem dl_788 : decode code 788 = .ok (.iload 4, 2) := by decide +kernel
theorem dl_790 : decode code 790 = .ok (.iconst 1, 1) := by decide +kernel
theorem dl_791 : decode code 791 = .ok (.iadd, 1) := by decide +kernel
theorem dl_792 : decode code 792 = .ok (.iaload, 1) := by decide +kernel
theorem dl_793 : decode code 793 = .ok (.aload_n 0, 1) := by decide +kernel
theorem dl_794 : decode code 794 = .ok (.iload 4, 2) := by decide +kernel
theorem dl_796 : decode code 796 = .ok (.iconst 2, 1) := by decide +kernel
theorem dl_797 : decode code 797 = .ok (.iadd, 1) := by decide +kernel
theorem dl_798 : decode code 798 = .ok (.iaload, 1) := by decide +kernel
theorem dl_799 : decode code 799 = .ok (.aload_n 0, 1) := by decide +kernel
theorem dl_800 : decode code 800 = .ok (.iload 4, 2) := by decide +kernel
theorem dl_802 : decode code 802 = .ok (.iconst 3, 1) := by decide +kernel
theorem dl_803 : decode code 803 = .ok (.iadd, 1) := by decide +kernel
theorem dl_804 : decode code 804 = .ok (.iaload, 1) := by decide +kernel
theorem dl_805 : decode code 805 = .ok (.invokevirtual 84, 3) := by decide +kernel
theorem dl_808 : decode code 808 = .ok (.if_icmp .eq 438, 3) := by decide +kernel
theorem dl_811 : decode code 811 = .ok (.iconst 0, 1) := by decide +kernel
theorem dl_812 : decode code 812 = .ok (.ireturn, 1) := by decide +kernel
theorem dl_813 : decode code 813 = .ok (.aload_n 1, 1) := by decide +kernel
theorem dl_814 : decode code 814 = .ok (.aload_n 0, 1) := by decide +kernel
theorem dl_815 : decode code 815 = .ok (.iload 4, 2) := by decide +kernel
theorem dl_817 : decode code 817 = .ok (.iconst 1, 1) := by decide +kernel
theorem dl_818 : decode code 818 = .ok (.iadd, 1) := by decide +kernel
theorem dl_819 : decode code 819 = .ok (.iaload, 1) := by decide +kernel
theorem dl_820 : decode code 820 = .ok (.invokevirtual 85, 3) := by decide +kernel
theorem dl_823 : decode code 823 = .ok (.aload_n 2, 1) := by decide +kernel
theorem dl_824 : decode code 824 = .ok (.aload_n 0, 1) := by decide +kernel
theorem dl_825 : decode code 825 = .ok (.iload 4, 2) := by decide +kernel
theorem dl_827 : decode code 827 = .ok (.iconst 1, 1) := by decide +kernel
theorem dl_828 : decode code 828 = .ok (.iadd, 1) := by decide +kernel
theorem dl_829 : decode code 829 = .ok (.iaload, 1) := by decide +kernel
theorem dl_830 : decode code 830 = .ok (.invokevirtual 88, 3) := by decide +kernel
theorem dl_833 : decode code 833 = .ok (.if_icmp .eq 413, 3) := by decide +kernel
theorem dl_836 : decode code 836 = .ok (.iconst 0, 1) := by decide +kernel
theorem dl_837 : decode code 837 = .ok (.ireturn, 1) := by decide +kernel
theorem dl_838 : decode code 838 = .ok (.aload_n 1, 1) := by decide +kernel
theorem dl_839 : decode code 839 = .ok (.aload_n 0, 1) := by decide +kernel
theorem dl_840 : decode code 840 = .ok (.iload 4, 2) := by decide +kernel
theorem dl_842 : decode code 842 = .ok (.iconst 1, 1) := by decide +kernel
theorem dl_843 : decode code 843 = .ok (.iadd, 1) := by decide +kernel
theorem dl_844 : decode code 844 = .ok (.iaload, 1) := by decide +kernel
theorem dl_845 : decode code 845 = .ok (.aload_n 0, 1) := by decide +kernel
theorem dl_846 : decode code 846 = .ok (.iload 4, 2) := by decide +kernel
theorem dl_848 : decode code 848 = .ok (.iconst 2, 1) := by decide +kernel
theorem dl_849 : decode code 849 = .ok (.iadd, 1) := by decide +kernel
theorem dl_850 : decode code 850 = .ok (.iaload, 1) := by decide +kernel
theorem dl_851 : decode code 851 = .ok (.aload_n 0, 1) := by decide +kernel
theorem dl_852 : decode code 852 = .ok (.iload 4, 2) := by decide +kernel
theorem dl_854 : decode code 854 = .ok (.iconst 3, 1) := by decide +kernel
theorem dl_855 : decode code 855 = .ok (.iadd, 1) := by decide +kernel
theorem dl_856 : decode code 856 = .ok (.iaload, 1) := by decide +kernel
theorem dl_857 : decode code 857 = .ok (.invokevirtual 89, 3) := by decide +kernel
theorem dl_860 : decode code 860 = .ok (.aload_n 2, 1) := by decide +kernel
theorem dl_861 : decode code 861 = .ok (.aload_n 0, 1) := by decide +kernel
theorem dl_862 : decode code 862 = .ok (.iload 4, 2) := by decide +kernel
theorem dl_864 : decode code 864 = .ok (.iconst 1, 1) := by decide +kernel
theorem dl_865 : decode code 865 = .ok (.iadd, 1) := by decide +kernel
theorem dl_866 : decode code 866 = .ok (.iaload, 1) := by decide +kernel
theorem dl_867 : decode code 867 = .ok (.aload_n 0, 1) := by decide +kernel
theorem dl_868 : decode code 868 = .ok (.iload 4, 2) := by decide +kernel
theorem dl_870 : decode code 870 = .ok (.iconst 2, 1) := by decide +kernel
theorem dl_871 : decode code 871 = .ok (.iadd, 1) := by decide +kernel
theorem dl_872 : decode code 872 = .ok (.iaload, 1) := by decide +kernel
theorem dl_873 : decode code 873 = .ok (.aload_n 0, 1) := by decide +kernel
theorem dl_874 : decode code 874 = .ok (.iload 4, 2) := by decide +kernel
theorem dl_876 : decode code 876 = .ok (.iconst 3, 1) := by decide +kernel
theorem dl_877 : decode code 877 = .ok (.iadd, 1) := by decide +kernel
theorem dl_878 : decode code 878 = .ok (.iaload, 1) := by decide +kernel
theorem dl_879 : decode code 879 = .ok (.invokevirtual 92, 3) := by decide +kernel
theorem dl_882 : decode code 882 = .ok (.if_icmp .eq 364, 3) := by decide +kernel
theorem dl_885 : decode code 885 = .ok (.iconst 0, 1) := by decide +kernel
theorem dl_886 : decode code 886 = .ok (.ireturn, 1) := by decide +kernel
theorem dl_887 : decode code 887 = .ok (.aload_n 1, 1) := by decide +kernel
theorem dl_888 : decode code 888 = .ok (.aload_n 0, 1) := by decide +kernel
theorem dl_889 : decode code 889 = .ok (.iload 4, 2) := by decide +kernel
theorem dl_891 : decode code 891 = .ok (.iconst 1, 1) := by decide +kernel
theorem dl_892 : decode code 892 = .ok (.iadd, 1) := by decide +kernel
theorem dl_893 : decode code 893 = .ok (.iaload, 1) := by decide +kernel
theorem dl_894 : decode code 894 = .ok (.aload_n 0, 1) := by decide +kernel
theorem dl_895 : decode code 895 = .ok (.iload 4, 2) := by decide +kernel
theorem dl_897 : decode code 897 = .ok (.iconst 2, 1) := by decide +kernel
theorem dl_898 : decode code 898 = .ok (.iadd, 1) := by decide +kernel
theorem dl_899 : decode code 899 = .ok (.iaload, 1) := by decide +kernel
theorem dl_900 : decode code 900 = .ok (.aload_n 0, 1) := by decide +kernel
theorem dl_901 : decode code 901 = .ok (.iload 4, 2) := by decide +kernel
theorem dl_903 : decode code 903 = .ok (.iconst 3, 1) := by decide +kernel
theorem dl_904 : decode code 904 = .ok (.iadd, 1) := by decide +kernel
theorem dl_905 : decode code 905 = .ok (.iaload, 1) := by decide +kernel
theorem dl_906 : decode code 906 = .ok (.invokevirtual 93, 3) := by decide +kernel
theorem dl_909 : decode code 909 = .ok (.aload_n 2, 1) := by decide +kernel
theorem dl_910 : decode code 910 = .ok (.aload_n 0, 1) := by decide +kernel
theorem dl_911 : decode code 911 = .ok (.iload 4, 2) := by decide +kernel
theorem dl_913 : decode code 913 = .ok (.iconst 1, 1) := by decide +kernel
theorem dl_914 : decode code 914 = .ok (.iadd, 1) := by decide +kernel
theorem dl_915 : decode code 915 = .ok (.iaload, 1) := by decide +kernel
theorem dl_916 : decode code 916 = .ok (.aload_n 0, 1) := by decide +kernel
theorem dl_917 : decode code 917 = .ok (.iload 4, 2) := by decide +kernel
theorem dl_919 : decode code 919 = .ok (.iconst 2, 1) := by decide +kernel
theorem dl_920 : decode code 920 = .ok (.iadd, 1) := by decide +kernel
theorem dl_921 : decode code 921 = .ok (.iaload, 1) := by decide +kernel
theorem dl_922 : decode code 922 = .ok (.aload_n 0, 1) := by decide +kernel
theorem dl_923 : decode code 923 = .ok (.iload 4, 2) := by decide +kernel
theorem dl_925 : decode code 925 = .ok (.iconst 3, 1) := by decide +kernel
theorem dl_926 : decode code 926 = .ok (.iadd, 1) := by decide +kernel
theorem dl_927 : decode code 927 = .ok (.iaload, 1) := by decide +kernel
theorem dl_928 : decode code 928 = .ok (.invokevirtual 96, 3) := by decide +kernel
theorem dl_931 : decode code 931 = .ok (.if_icmp .eq 315, 3) := by decide +kernel
theorem dl_934 : decode code 934 = .ok (.iconst 0, 1) := by decide +kernel
theorem dl_935 : decode code 935 = .ok (.ireturn, 1) := by decide +kernel
theorem dl_936 : decode code 936 = .ok (.aload_n 1, 1) := by decide +kernel
theorem dl_937 : decode code 937 = .ok (.aload_n 0, 1) := by decide +kernel
theorem dl_938 : decode code 938 = .ok (.iload 4, 2) := by decide +kernel
theorem dl_940 : decode code 940 = .ok (.iconst 1, 1) := by decide +kernel
theorem dl_941 : decode code 941 = .ok (.iadd, 1) := by decide +kernel
theorem dl_942 : decode code 942 = .ok (.iaload, 1) := by decide +kernel
theorem dl_943 : decode code 943 = .ok (.aload_n 0, 1) := by decide +kernel
theorem dl_944 : decode code 944 = .ok (.iload 4, 2) := by decide +kernel
theorem dl_946 : decode code 946 = .ok (.iconst 2, 1) := by decide +kernel
theorem dl_947 : decode code 947 = .ok (.iadd, 1) := by decide +kernel
theorem dl_948 : decode code 948 = .ok (.iaload, 1) := by decide +kernel
theorem dl_949 : decode code 949 = .ok (.invokevirtual 97, 3) := by decide +kernel
theorem dl_952 : decode code 952 = .ok (.aload_n 2, 1) := by decide +kernel
theorem dl_953 : decode code 953 = .ok (.aload_n 0, 1) := by decide +kernel
theorem dl_954 : decode code 954 = .ok (.iload 4, 2) := by decide +kernel
theorem dl_956 : decode code 956 = .ok (.iconst 1, 1) := by decide +kernel
theorem dl_957 : decode code 957 = .ok (.iadd, 1) := by decide +kernel
theorem dl_958 : decode code 958 = .ok (.iaload, 1) := by decide +kernel
theorem dl_959 : decode code 959 = .ok (.aload_n 0, 1) := by decide +kernel
theorem dl_960 : decode code 960 = .ok (.iload 4, 2) := by decide +kernel
theorem dl_962 : decode code 962 = .ok (.iconst 2, 1) := by decide +kernel
theorem dl_963 : decode code 963 = .ok (.iadd, 1) := by decide +kernel
theorem dl_964 : decode code 964 = .ok (.iaload, 1) := by decide +kernel
theorem dl_965 : decode code 965 = .ok (.invokevirtual 100, 3) := by decide +kernel
theorem dl_968 : decode code 968 = .ok (.if_icmp .eq 278, 3) := by decide +kernel
theorem dl_971 : decode code 971 = .ok (.iconst 0, 1) := by decide +kernel
theorem dl_972 : decode code 972 = .ok (.ireturn, 1) := by decide +kernel
theorem dl_973 : decode code 973 = .ok (.aload_n 1, 1) := by decide +kernel
theorem dl_974 : decode code 974 = .ok (.invokevirtual 101, 3) := by decide +kernel
theorem dl_977 : decode code 977 = .ok (.aload_n 2, 1) := by decide +kernel
theorem dl_978 : decode code 978 = .ok (.invokevirtual 104, 3) := by decide +kernel
theorem dl_981 : decode code 981 = .ok (.if_icmp .eq 265, 3) := by decide +kernel
theorem dl_984 : decode code 984 = .ok (.iconst 0, 1) := by decide +kernel
theorem dl_985 : decode code 985 = .ok (.ireturn, 1) := by decide +kernel
theorem dl_986 : decode code 986 = .ok (.aload_n 1, 1) := by decide +kernel
theorem dl_987 : decode code 987 = .ok (.aload_n 0, 1) := by decide +kernel
theorem dl_988 : decode code 988 = .ok (.iload 4, 2) := by decide +kernel
theorem dl_990 : decode code 990 = .ok (.iconst 1, 1) := by decide +kernel
theorem dl_991 : decode code 991 = .ok (.iadd, 1) := by decide +kernel
theorem dl_992 : decode code 992 = .ok (.iaload, 1) := by decide +kernel
theorem dl_993 : decode code 993 = .ok (.aload_n 0, 1) := by decide +kernel
theorem dl_994 : decode code 994 = .ok (.iload 4, 2) := by decide +kernel
theorem dl_996 : decode code 996 = .ok (.iconst 2, 1) := by decide +kernel
theorem dl_997 : decode code 997 = .ok (.iadd, 1) := by decide +kernel
theorem dl_998 : decode code 998 = .ok (.iaload, 1) := by decide +kernel
theorem dl_999 : decode code 999 = .ok (.invokevirtual 105, 3) := by decide +kernel
theorem dl_1002 : decode code 1002 = .ok (.aload_n 2, 1) := by decide +kernel
theorem dl_1003 : decode code 1003 = .ok (.aload_n 0, 1) := by decide +kernel
theorem dl_1004 : decode code 1004 = .ok (.iload 4, 2) := by decide +kernel
theorem dl_1006 : decode code 1006 = .ok (.iconst 1, 1) := by decide +kernel
theorem dl_1007 : decode code 1007 = .ok (.iadd, 1) := by decide +kernel
theorem dl_1008 : decode code 1008 = .ok (.iaload, 1) := by decide +kernel
theorem dl_1009 : decode code 1009 = .ok (.aload_n 0, 1) := by decide +kernel
theorem dl_1010 : decode code 1010 = .ok (.iload 4, 2) := by decide +kernel
theorem dl_1012 : decode code 1012 = .ok (.iconst 2, 1) := by decide +kernel
theorem dl_1013 : decode code 1013 = .ok (.iadd, 1) := by decide +kernel
theorem dl_1014 : decode code 1014 = .ok (.iaload, 1) := by decide +kernel
theorem dl_1015 : decode code 1015 = .ok (.invokevirtual 108, 3) := by decide +kernel
theorem dl_1018 : decode code 1018 = .ok (.if_icmp .eq 228, 3) := by decide +kernel
theorem dl_1021 : decode code 1021 = .ok (.iconst 0, 1) := by decide +kernel
theorem dl_1022 : decode code 1022 = .ok (.ireturn, 1) := by decide +kernel
theorem dl_1023 : decode code 1023 = .ok (.aload_n 1, 1) := by decide +kernel
theorem dl_1024 : decode code 1024 = .ok (.aload_n 0, 1) := by decide +kernel
theorem dl_1025 : decode code 1025 = .ok (.iload 4, 2) := by decide +kernel
theorem dl_1027 : decode code 1027 = .ok (.iconst 1, 1) := by decide +kernel
theorem dl_1028 : decode code 1028 = .ok (.iadd, 1) := by decide +kernel
theorem dl_1029 : decode code 1029 = .ok (.iaload, 1) := by decide +kernel
theorem dl_1030 : decode code 1030 = .ok (.invokevirtual 109, 3) := by decide +kernel
theorem dl_1033 : decode code 1033 = .ok (.aload_n 2, 1) := by decide +kernel
theorem dl_1034 : decode code 1034 = .ok (.aload_n 0, 1) := by decide +kernel
theorem dl_1035 : decode code 1035 = .ok (.iload 4, 2) := by decide +kernel
theorem dl_1037 : decode code 1037 = .ok (.iconst 1, 1) := by decide +kernel
theorem dl_1038 : decode code 1038 = .ok (.iadd, 1) := by decide +kernel
theorem dl_1039 : decode code 1039 = .ok (.iaload, 1) := by decide +kernel
theorem dl_1040 : decode code 1040 = .ok (.invokevirtual 112, 3) := by decide +kernel
theorem dl_1043 : decode code 1043 = .ok (.if_icmp .eq 203, 3) := by decide +kernel
theorem dl_1046 : decode code 1046 = .ok (.iconst 0, 1) := by decide +kernel
theorem dl_1047 : decode code 1047 = .ok (.ireturn, 1) := by decide +kernel
theorem dl_1048 : decode code 1048 = .ok (.aload_n 1, 1) := by decide +kernel
theorem dl_1049 : decode code 1049 = .ok (.aload_n 0, 1) := by decide +kernel
theorem dl_1050 : decode code 1050 = .ok (.iload 4, 2) := by decide +kernel
theorem dl_1052 : decode code 1052 = .ok (.iconst 1, 1) := by decide +kernel
theorem dl_1053 : decode code 1053 = .ok (.iadd, 1) := by decide +kernel
theorem dl_1054 : decode code 1054 = .ok (.iaload, 1) := by decide +kernel
theorem dl_1055 : decode code 1055 = .ok (.invokevirtual 113, 3) := by decide +kernel
theorem dl_1058 : decode code 1058 = .ok (.aload_n 2, 1) := by decide +kernel
theorem dl_1059 : decode code 1059 = .ok (.aload_n 0, 1) := by decide +kernel
theorem dl_1060 : decode code 1060 = .ok (.iload 4, 2) := by decide +kernel
theorem dl_1062 : decode code 1062 = .ok (.iconst 1, 1) := by decide +kernel
theorem dl_1063 : decode code 1063 = .ok (.iadd, 1) := by decide +kernel
theorem dl_1064 : decode code 1064 = .ok (.iaload, 1) := by decide +kernel
theorem dl_1065 : decode code 1065 = .ok (.invokevirtual 116, 3) := by decide +kernel
theorem dl_1068 : decode code 1068 = .ok (.if_icmp .eq 178, 3) := by decide +kernel
theorem dl_1071 : decode code 1071 = .ok (.iconst 0, 1) := by decide +kernel
theorem dl_1072 : decode code 1072 = .ok (.ireturn, 1) := by decide +kernel
theorem dl_1073 : decode code 1073 = .ok (.aload_n 1, 1) := by decide +kernel
theorem dl_1074 : decode code 1074 = .ok (.aload_n 0, 1) := by decide +kernel
theorem dl_1075 : decode code 1075 = .ok (.iload 4, 2) := by decide +kernel
theorem dl_1077 : decode code 1077 = .ok (.iconst 1, 1) := by decide +kernel
theorem dl_1078 : decode code 1078 = .ok (.iadd, 1) := by decide +kernel
theorem dl_1079 : decode code 1079 = .ok (.iaload, 1) := by decide +kernel
theorem dl_1080 : decode code 1080 = .ok (.aload_n 0, 1) := by decide +kernel
theorem dl_1081 : decode code 1081 = .ok (.iload 4, 2) := by decide +kernel
theorem dl_1083 : decode code 1083 = .ok (.iconst 2, 1) := by decide +kernel
theorem dl_1084 : decode code 1084 = .ok (.iadd, 1) := by decide +kernel
theorem dl_1085 : decode code 1085 = .ok (.iaload, 1) := by decide +kernel
theorem dl_1086 : decode code 1086 = .ok (.aload_n 0, 1) := by decide +kernel
theorem dl_1087 : decode code 1087 = .ok (.iload 4, 2) := by decide +kernel
theorem dl_1089 : decode code 1089 = .ok (.iconst 3, 1) := by decide +kernel
theorem dl_1090 : decode code 1090 = .ok (.iadd, 1) := by decide +kernel
theorem dl_1091 : decode code 1091 = .ok (.iaload, 1) := by decide +kernel
theorem dl_1092 : decode code 1092 = .ok (.aload_n 0, 1) := by decide +kernel
theorem dl_1093 : decode code 1093 = .ok (.iload 4, 2) := by decide +kernel
theorem dl_1095 : decode code 1095 = .ok (.iconst 4, 1) := by decide +kernel
theorem dl_1096 : decode code 1096 = .ok (.iadd, 1) := by decide +kernel
theorem dl_1097 : decode code 1097 = .ok (.iaload, 1) := by decide +kernel
theorem dl_1098 : decode code 1098 = .ok (.invokevirtual 117, 3) := by decide +kernel
theorem dl_1101 : decode code 1101 = .ok (.aload_n 2, 1) := by decide +kernel
theorem dl_1102 : decode code 1102 = .ok (.aload_n 0, 1) := by decide +kernel
theorem dl_1103 : decode code 1103 = .ok (.iload 4, 2) := by decide +kernel
theorem dl_1105 : decode code 1105 = .ok (.iconst 1, 1) := by decide +kernel
theorem dl_1106 : decode code 1106 = .ok (.iadd, 1) := by decide +kernel
theorem dl_1107 : decode code 1107 = .ok (.iaload, 1) := by decide +kernel
theorem dl_1108 : decode code 1108 = .ok (.aload_n 0, 1) := by decide +kernel
theorem dl_1109 : decode code 1109 = .ok (.iload 4, 2) := by decide +kernel
theorem dl_1111 : decode code 1111 = .ok (.iconst 2, 1) := by decide +kernel
theorem dl_1112 : decode code 1112 = .ok (.iadd, 1) := by decide +kernel
theorem dl_1113 : decode code 1113 = .ok (.iaload, 1) := by decide +kernel
theorem dl_1114 : decode code 1114 = .ok (.aload_n 0, 1) := by decide +kernel
theorem dl_1115 : decode code 1115 = .ok (.iload 4, 2) := by decide +kernel
theorem dl_1117 : decode code 1117 = .ok (.iconst 3, 1) := by decide +kernel
theorem dl_1118 : decode code 1118 = .ok (.iadd, 1) := by decide +kernel
theorem dl_1119 : decode code 1119 = .ok (.iaload, 1) := by decide +kernel
theorem dl_1120 : decode code 1120 = .ok (.aload_n 0, 1) := by decide +kernel
theorem dl_1121 : decode code 1121 = .ok (.iload 4, 2) := by decide +kernel
theorem dl_1123 : decode code 1123 = .ok (.iconst 4, 1) := by decide +kernel
theorem dl_1124 : decode code 1124 = .ok (.iadd, 1) := by decide +kernel
theorem dl_1125 : decode code 1125 = .ok (.iaload, 1) := by decide +kernel
theorem dl_1126 : decode code 1126 = .ok (.invokevirtual 120, 3) := by decide +kernel
theorem dl_1129 : decode code 1129 = .ok (.if_icmp .eq 117, 3) := by decide +kernel
theorem dl_1132 : decode code 1132 = .ok (.iconst 0, 1) := by decide +kernel
theorem dl_1133 : decode code 1133 = .ok (.ireturn, 1) := by decide +kernel
theorem dl_1134 : decode code 1134 = .ok (.aload_n 1, 1) := by decide +kernel
theorem dl_1135 : decode code 1135 = .ok (.aload_n 0, 1) := by decide +kernel
theorem dl_1136 : decode code 1136 = .ok (.iload 4, 2) := by decide +kernel
theorem dl_1138 : decode code 1138 = .ok (.iconst 1, 1) := by decide +kernel
theorem dl_1139 : decode code 1139 = .ok (.iadd, 1) := by decide +kernel
theorem dl_1140 : decode code 1140 = .ok (.iaload, 1) := by decide +kernel
theorem dl_1141 : decode code 1141 = .ok (.aload_n 0, 1) := by decide +kernel
theorem dl_1142 : decode code 1142 = .ok (.iload 4, 2) := by decide +kernel
theorem dl_1144 : decode code 1144 = .ok (.iconst 2, 1) := by decide +kernel
theorem dl_1145 : decode code 1145 = .ok (.iadd, 1) := by decide +kernel
theorem dl_1146 : decode code 1146 = .ok (.iaload, 1) := by decide +kernel
theorem dl_1147 : decode code 1147 = .ok (.aload_n 0, 1) := by decide +kernel
theorem dl_1148 : decode code 1148 = .ok (.iload 4, 2) := by decide +kernel
theorem dl_1150 : decode code 1150 = .ok (.iconst 3, 1) := by decide +kernel
theorem dl_1151 : decode code 1151 = .ok (.iadd, 1) := by decide +kernel
theorem dl_1152 : decode code 1152 = .ok (.iaload, 1) := by decide +kernel
theorem dl_1153 : decode code 1153 = .ok (.aload_n 0, 1) := by decide +kernel
theorem dl_1154 : decode code 1154 = .ok (.iload 4, 2) := by decide +kernel
theorem dl_1156 : decode code 1156 = .ok (.iconst 4, 1) := by decide +kernel
theorem dl_1157 : decode code 1157 = .ok (.iadd, 1) := by decide +kernel
theorem dl_1158 : decode code 1158 = .ok (.iaload, 1) := by decide +kernel
theorem dl_1159 : decode code 1159 = .ok (.aload_n 0, 1) := by decide +kernel
theorem dl_1160 : decode code 1160 = .ok (.iload 4, 2) := by decide +kernel
theorem dl_1162 : decode code 1162 = .ok (.iconst 5, 1) := by decide +kernel
theorem dl_1163 : decode code 1163 = .ok (.iadd, 1) := by decide +kernel
theorem dl_1164 : decode code 1164 = .ok (.iaload, 1) := by decide +kernel
theorem dl_1165 : decode code 1165 = .ok (.aload_n 0, 1) := by decide +kernel
theorem dl_1166 : decode code 1166 = .ok (.iload 4, 2) := by decide +kernel
theorem dl_1168 : decode code 1168 = .ok (.bipush 6, 2) := by decide +kernel
theorem dl_1170 : decode code 1170 = .ok (.iadd, 1) := by decide +kernel
theorem dl_1171 : decode code 1171 = .ok (.iaload, 1) := by decide +kernel
theorem dl_1172 : decode code 1172 = .ok (.invokevirtual 121, 3) := by decide +kernel
theorem dl_1175 : decode code 1175 = .ok (.aload_n 2, 1) := by decide +kernel
theorem dl_1176 : decode code 1176 = .ok (.aload_n 0, 1) := by decide +kernel
theorem dl_1177 : decode code 1177 = .ok (.iload 4, 2) := by decide +kernel
theorem dl_1179 : decode code 1179 = .ok (.iconst 1, 1) := by decide +kernel
theorem dl_1180 : decode code 1180 = .ok (.iadd, 1) := by decide +kernel
theorem dl_1181 : decode code 1181 = .ok (.iaload, 1) := by decide +kernel
theorem dl_1182 : decode code 1182 = .ok (.aload_n 0, 1) := by decide +kernel
theorem dl_1183 : decode code 1183 = .ok (.iload 4, 2) := by decide +kernel
theorem dl_1185 : decode code 1185 = .ok (.iconst 2, 1) := by decide +kernel
theorem dl_1186 : decode code 1186 = .ok (.iadd, 1) := by decide +kernel
theorem dl_1187 : decode code 1187 = .ok (.iaload, 1) := by decide +kernel
theorem dl_1188 : decode code 1188 = .ok (.aload_n 0, 1) := by decide +kernel
theorem dl_1189 : decode code 1189 = .ok (.iload 4, 2) := by decide +kernel
theorem dl_1191 : decode code 1191 = .ok (.iconst 3, 1) := by decide +kernel
theorem dl_1192 : decode code 1192 = .ok (.iadd, 1) := by decide +kernel
theorem dl_1193 : decode code 1193 = .ok (.iaload, 1) := by decide +kernel
theorem dl_1194 : decode code 1194 = .ok (.aload_n 0, 1) := by decide +kernel
theorem dl_1195 : decode code 1195 = .ok (.iload 4, 2) := by decide +kernel
theorem dl_1197 : decode code 1197 = .ok (.iconst 4, 1) := by decide +kernel
theorem dl_1198 : decode code 1198 = .ok (.iadd, 1) := by decide +kernel
theorem dl_1199 : decode code 1199 = .ok (.iaload, 1) := by decide +kernel
theorem dl_1200 : decode code 1200 = .ok (.aload_n 0, 1) := by decide +kernel
theorem dl_1201 : decode code 1201 = .ok (.iload 4, 2) := by decide +kernel
theorem dl_1203 : decode code 1203 = .ok (.iconst 5, 1) := by decide +kernel
theorem dl_1204 : decode code 1204 = .ok (.iadd, 1) := by decide +kernel
theorem dl_1205 : decode code 1205 = .ok (.iaload, 1) := by decide +kernel
theorem dl_1206 : decode code 1206 = .ok (.aload_n 0, 1) := by decide +kernel
theorem dl_1207 : decode code 1207 = .ok (.iload 4, 2) := by decide +kernel
theorem dl_1209 : decode code 1209 = .ok (.bipush 6, 2) := by decide +kernel
theorem dl_1211 : decode code 1211 = .ok (.iadd, 1) := by decide +kernel
theorem dl_1212 : decode code 1212 = .ok (.iaload, 1) := by decide +kernel
theorem dl_1213 : decode code 1213 = .ok (.invokevirtual 125, 3) := by decide +kernel
theorem dl_1216 : decode code 1216 = .ok (.if_icmp .eq 30, 3) := by decide +kernel
theorem dl_1219 : decode code 1219 = .ok (.iconst 0, 1) := by decide +kernel
theorem dl_1220 : decode code 1220 = .ok (.ireturn, 1) := by decide +kernel
theorem dl_1221 : decode code 1221 = .ok (.aload_n 1, 1) := by decide +kernel
theorem dl_1222 : decode code 1222 = .ok (.aload_n 0, 1) := by decide +kernel
theorem dl_1223 : decode code 1223 = .ok (.iload 4, 2) := by decide +kernel
theorem dl_1225 : decode code 1225 = .ok (.iconst 1, 1) := by decide +kernel
theorem dl_1226 : decode code 1226 = .ok (.iadd, 1) := by decide +kernel
theorem dl_1227 : decode code 1227 = .ok (.iaload, 1) := by decide +kernel
theorem dl_1228 : decode code 1228 = .ok (.invokevirtual 126, 3) := by decide +kernel
theorem dl_1231 : decode code 1231 = .ok (.aload_n 2, 1) := by decide +kernel
theorem dl_1232 : decode code 1232 = .ok (.aload_n 0, 1) := by decide +kernel
theorem dl_1233 : decode code 1233 = .ok (.iload 4, 2) := by decide +kernel
theorem dl_1235 : decode code 1235 = .ok (.iconst 1, 1) := by decide +kernel
theorem dl_1236 : decode code 1236 = .ok (.iadd, 1) := by decide +kernel
theorem dl_1237 : decode code 1237 = .ok (.iaload, 1) := by decide +kernel
theorem dl_1238 : decode code 1238 = .ok (.invokevirtual 129, 3) := by decide +kernel
theorem dl_1241 : decode code 1241 = .ok (.if_icmp .eq 5, 3) := by decide +kernel
theorem dl_1244 : decode code 1244 = .ok (.iconst 0, 1) := by decide +kernel
theorem dl_1245 : decode code 1245 = .ok (.ireturn, 1) := by decide +kernel
theorem dl_1246 : decode code 1246 = .ok (.iinc 4 7, 3) := by decide +kernel
theorem dl_1249 : decode code 1249 = .ok (.goto (-1226), 3) := by decide +kernel
theorem dl_1252 : decode code 1252 = .ok (.iconst 1, 1) := by decide +kernel
theorem dl_1253 : decode code 1253 = .ok (.ireturn, 1) := by decide +kernel
