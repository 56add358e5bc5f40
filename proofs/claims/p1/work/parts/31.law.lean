/-! the body of the law, walked by program; its loop by hand behind -/
theorem dL_law_0 : decode cL_law 0 = .ok (.new 8, 3) := by decide +kernel
theorem dL_law_3 : decode cL_law 3 = .ok (.dup, 1) := by decide +kernel
theorem dL_law_4 : decode cL_law 4 = .ok (.invokespecial 96, 3) := by decide +kernel
theorem dL_law_7 : decode cL_law 7 = .ok (.astore_n 1, 1) := by decide +kernel
theorem dL_law_8 : decode cL_law 8 = .ok (.new 97, 3) := by decide +kernel
theorem dL_law_11 : decode cL_law 11 = .ok (.dup, 1) := by decide +kernel
theorem dL_law_12 : decode cL_law 12 = .ok (.invokespecial 99, 3) := by decide +kernel
theorem dL_law_15 : decode cL_law 15 = .ok (.astore_n 2, 1) := by decide +kernel
theorem dL_law_16 : decode cL_law 16 = .ok (.iconst 1, 1) := by decide +kernel
theorem dL_law_17 : decode cL_law 17 = .ok (.newarray .long, 2) := by decide +kernel
theorem dL_law_19 : decode cL_law 19 = .ok (.astore_n 3, 1) := by decide +kernel
theorem dL_law_20 : decode cL_law 20 = .ok (.iconst 0, 1) := by decide +kernel
theorem dL_law_21 : decode cL_law 21 = .ok (.istore 4, 2) := by decide +kernel
theorem dL_law_23 : decode cL_law 23 = .ok (.iload 4, 2) := by decide +kernel
theorem dL_law_25 : decode cL_law 25 = .ok (.aload_n 0, 1) := by decide +kernel
theorem dL_law_26 : decode cL_law 26 = .ok (.arraylength, 1) := by decide +kernel
theorem dL_law_27 : decode cL_law 27 = .ok (.bipush 6, 2) := by decide +kernel
theorem dL_law_29 : decode cL_law 29 = .ok (.isub, 1) := by decide +kernel
theorem dL_law_30 : decode cL_law 30 = .ok (.if_icmp .gt 2062, 3) := by decide +kernel
theorem dL_law_33 : decode cL_law 33 = .ok (.aload_n 0, 1) := by decide +kernel
theorem dL_law_34 : decode cL_law 34 = .ok (.iload 4, 2) := by decide +kernel
theorem dL_law_36 : decode cL_law 36 = .ok (.iaload, 1) := by decide +kernel
theorem dL_law_37 : decode cL_law 37 = .ok (.bipush 63, 2) := by decide +kernel
theorem dL_law_39 : decode cL_law 39 = .ok (.iand, 1) := by decide +kernel
theorem dL_law_40 : decode cL_law 40 = .ok (.tableswitch 2046 0 34 #[156, 224, 280, 360, 373, 441, 509, 577, 657, 737, 793, 861, 886, 966, 1022, 1126, 1182, 1273, 1329, 1397, 1477, 1533, 1558, 1595, 1632, 1669, 1725, 1781, 1837, 1850, 1863, 1907, 1963, 1988, 2032], 156) := by decide +kernel
theorem dL_law_196 : decode cL_law 196 = .ok (.aload_n 1, 1) := by decide +kernel
theorem dL_law_197 : decode cL_law 197 = .ok (.aload_n 0, 1) := by decide +kernel
theorem dL_law_198 : decode cL_law 198 = .ok (.iload 4, 2) := by decide +kernel
theorem dL_law_200 : decode cL_law 200 = .ok (.iconst 1, 1) := by decide +kernel
theorem dL_law_201 : decode cL_law 201 = .ok (.iadd, 1) := by decide +kernel
theorem dL_law_202 : decode cL_law 202 = .ok (.iaload, 1) := by decide +kernel
theorem dL_law_203 : decode cL_law 203 = .ok (.aload_n 0, 1) := by decide +kernel
theorem dL_law_204 : decode cL_law 204 = .ok (.iload 4, 2) := by decide +kernel
theorem dL_law_206 : decode cL_law 206 = .ok (.iconst 2, 1) := by decide +kernel
theorem dL_law_207 : decode cL_law 207 = .ok (.iadd, 1) := by decide +kernel
theorem dL_law_208 : decode cL_law 208 = .ok (.iaload, 1) := by decide +kernel
theorem dL_law_209 : decode cL_law 209 = .ok (.aload_n 3, 1) := by decide +kernel
theorem dL_law_210 : decode cL_law 210 = .ok (.invokestatic 100, 3) := by decide +kernel
theorem dL_law_213 : decode cL_law 213 = .ok (.istore 5, 2) := by decide +kernel
theorem dL_law_215 : decode cL_law 215 = .ok (.aload_n 2, 1) := by decide +kernel
theorem dL_law_216 : decode cL_law 216 = .ok (.aload_n 0, 1) := by decide +kernel
theorem dL_law_217 : decode cL_law 217 = .ok (.iload 4, 2) := by decide +kernel
theorem dL_law_219 : decode cL_law 219 = .ok (.iconst 1, 1) := by decide +kernel
theorem dL_law_220 : decode cL_law 220 = .ok (.iadd, 1) := by decide +kernel
theorem dL_law_221 : decode cL_law 221 = .ok (.iaload, 1) := by decide +kernel
theorem dL_law_222 : decode cL_law 222 = .ok (.aload_n 0, 1) := by decide +kernel
theorem dL_law_223 : decode cL_law 223 = .ok (.iload 4, 2) := by decide +kernel
theorem dL_law_225 : decode cL_law 225 = .ok (.iconst 2, 1) := by decide +kernel
theorem dL_law_226 : decode cL_law 226 = .ok (.iadd, 1) := by decide +kernel
theorem dL_law_227 : decode cL_law 227 = .ok (.iaload, 1) := by decide +kernel
theorem dL_law_228 : decode cL_law 228 = .ok (.invokevirtual 105, 3) := by decide +kernel
theorem dL_law_231 : decode cL_law 231 = .ok (.istore 6, 2) := by decide +kernel
theorem dL_law_233 : decode cL_law 233 = .ok (.aload_n 2, 1) := by decide +kernel
theorem dL_law_234 : decode cL_law 234 = .ok (.invokevirtual 106, 3) := by decide +kernel
theorem dL_law_237 : decode cL_law 237 = .ok (.iload 5, 2) := by decide +kernel
theorem dL_law_239 : decode cL_law 239 = .ok (.if_icmp .eq 5, 3) := by decide +kernel
theorem dL_law_242 : decode cL_law 242 = .ok (.iconst 0, 1) := by decide +kernel
theorem dL_law_243 : decode cL_law 243 = .ok (.ireturn, 1) := by decide +kernel
theorem dL_law_244 : decode cL_law 244 = .ok (.iload 5, 2) := by decide +kernel
theorem dL_law_246 : decode cL_law 246 = .ok (.ifCond .ne 15, 3) := by decide +kernel
theorem dL_law_249 : decode cL_law 249 = .ok (.aload_n 3, 1) := by decide +kernel
theorem dL_law_250 : decode cL_law 250 = .ok (.iconst 0, 1) := by decide +kernel
theorem dL_law_251 : decode cL_law 251 = .ok (.laload, 1) := by decide +kernel
theorem dL_law_252 : decode cL_law 252 = .ok (.iload 6, 2) := by decide +kernel
theorem dL_law_254 : decode cL_law 254 = .ok (.i2l, 1) := by decide +kernel
theorem dL_law_255 : decode cL_law 255 = .ok (.lcmp, 1) := by decide +kernel
theorem dL_law_256 : decode cL_law 256 = .ok (.ifCond .eq 5, 3) := by decide +kernel
theorem dL_law_259 : decode cL_law 259 = .ok (.iconst 0, 1) := by decide +kernel
theorem dL_law_260 : decode cL_law 260 = .ok (.ireturn, 1) := by decide +kernel
theorem dL_law_261 : decode cL_law 261 = .ok (.goto 1825, 3) := by decide +kernel
theorem dL_law_264 : decode cL_law 264 = .ok (.aload_n 1, 1) := by decide +kernel
theorem dL_law_265 : decode cL_law 265 = .ok (.aload_n 0, 1) := by decide +kernel
theorem dL_law_266 : decode cL_law 266 = .ok (.iload 4, 2) := by decide +kernel
theorem dL_law_268 : decode cL_law 268 = .ok (.iconst 1, 1) := by decide +kernel
theorem dL_law_269 : decode cL_law 269 = .ok (.iadd, 1) := by decide +kernel
theorem dL_law_270 : decode cL_law 270 = .ok (.iaload, 1) := by decide +kernel
theorem dL_law_271 : decode cL_law 271 = .ok (.aload_n 3, 1) := by decide +kernel
theorem dL_law_272 : decode cL_law 272 = .ok (.invokestatic 109, 3) := by decide +kernel
theorem dL_law_275 : decode cL_law 275 = .ok (.istore 5, 2) := by decide +kernel
theorem dL_law_277 : decode cL_law 277 = .ok (.aload_n 2, 1) := by decide +kernel
theorem dL_law_278 : decode cL_law 278 = .ok (.aload_n 0, 1) := by decide +kernel
theorem dL_law_279 : decode cL_law 279 = .ok (.iload 4, 2) := by decide +kernel
theorem dL_law_281 : decode cL_law 281 = .ok (.iconst 1, 1) := by decide +kernel
theorem dL_law_282 : decode cL_law 282 = .ok (.iadd, 1) := by decide +kernel
theorem dL_law_283 : decode cL_law 283 = .ok (.iaload, 1) := by decide +kernel
theorem dL_law_284 : decode cL_law 284 = .ok (.invokevirtual 112, 3) := by decide +kernel
theorem dL_law_287 : decode cL_law 287 = .ok (.istore 6, 2) := by decide +kernel
theorem dL_law_289 : decode cL_law 289 = .ok (.aload_n 2, 1) := by decide +kernel
theorem dL_law_290 : decode cL_law 290 = .ok (.invokevirtual 106, 3) := by decide +kernel
theorem dL_law_293 : decode cL_law 293 = .ok (.iload 5, 2) := by decide +kernel
theorem dL_law_295 : decode cL_law 295 = .ok (.if_icmp .eq 5, 3) := by decide +kernel
theorem dL_law_298 : decode cL_law 298 = .ok (.iconst 0, 1) := by decide +kernel
theorem dL_law_299 : decode cL_law 299 = .ok (.ireturn, 1) := by decide +kernel
theorem dL_law_300 : decode cL_law 300 = .ok (.iload 5, 2) := by decide +kernel
theorem dL_law_302 : decode cL_law 302 = .ok (.ifCond .ne 15, 3) := by decide +kernel
theorem dL_law_305 : decode cL_law 305 = .ok (.aload_n 3, 1) := by decide +kernel
theorem dL_law_306 : decode cL_law 306 = .ok (.iconst 0, 1) := by decide +kernel
theorem dL_law_307 : decode cL_law 307 = .ok (.laload, 1) := by decide +kernel
theorem dL_law_308 : decode cL_law 308 = .ok (.iload 6, 2) := by decide +kernel
theorem dL_law_310 : decode cL_law 310 = .ok (.i2l, 1) := by decide +kernel
theorem dL_law_311 : decode cL_law 311 = .ok (.lcmp, 1) := by decide +kernel
theorem dL_law_312 : decode cL_law 312 = .ok (.ifCond .eq 5, 3) := by decide +kernel
theorem dL_law_315 : decode cL_law 315 = .ok (.iconst 0, 1) := by decide +kernel
theorem dL_law_316 : decode cL_law 316 = .ok (.ireturn, 1) := by decide +kernel
theorem dL_law_317 : decode cL_law 317 = .ok (.goto 1769, 3) := by decide +kernel
theorem dL_law_320 : decode cL_law 320 = .ok (.aload_n 1, 1) := by decide +kernel
theorem dL_law_321 : decode cL_law 321 = .ok (.aload_n 0, 1) := by decide +kernel
theorem dL_law_322 : decode cL_law 322 = .ok (.iload 4, 2) := by decide +kernel
theorem dL_law_324 : decode cL_law 324 = .ok (.iconst 1, 1) := by decide +kernel
theorem dL_law_325 : decode cL_law 325 = .ok (.iadd, 1) := by decide +kernel
theorem dL_law_326 : decode cL_law 326 = .ok (.iaload, 1) := by decide +kernel
theorem dL_law_327 : decode cL_law 327 = .ok (.aload_n 0, 1) := by decide +kernel
theorem dL_law_328 : decode cL_law 328 = .ok (.iload 4, 2) := by decide +kernel
theorem dL_law_330 : decode cL_law 330 = .ok (.iconst 2, 1) := by decide +kernel
theorem dL_law_331 : decode cL_law 331 = .ok (.iadd, 1) := by decide +kernel
theorem dL_law_332 : decode cL_law 332 = .ok (.iaload, 1) := by decide +kernel
theorem dL_law_333 : decode cL_law 333 = .ok (.aload_n 0, 1) := by decide +kernel
theorem dL_law_334 : decode cL_law 334 = .ok (.iload 4, 2) := by decide +kernel
theorem dL_law_336 : decode cL_law 336 = .ok (.iconst 3, 1) := by decide +kernel
theorem dL_law_337 : decode cL_law 337 = .ok (.iadd, 1) := by decide +kernel
theorem dL_law_338 : decode cL_law 338 = .ok (.iaload, 1) := by decide +kernel
theorem dL_law_339 : decode cL_law 339 = .ok (.aload_n 3, 1) := by decide +kernel
theorem dL_law_340 : decode cL_law 340 = .ok (.invokestatic 113, 3) := by decide +kernel
theorem dL_law_343 : decode cL_law 343 = .ok (.istore 5, 2) := by decide +kernel
theorem dL_law_345 : decode cL_law 345 = .ok (.aload_n 2, 1) := by decide +kernel
theorem dL_law_346 : decode cL_law 346 = .ok (.aload_n 0, 1) := by decide +kernel
theorem dL_law_347 : decode cL_law 347 = .ok (.iload 4, 2) := by decide +kernel
theorem dL_law_349 : decode cL_law 349 = .ok (.iconst 1, 1) := by decide +kernel
theorem dL_law_350 : decode cL_law 350 = .ok (.iadd, 1) := by decide +kernel
theorem dL_law_351 : decode cL_law 351 = .ok (.iaload, 1) := by decide +kernel
theorem dL_law_352 : decode cL_law 352 = .ok (.aload_n 0, 1) := by decide +kernel
theorem dL_law_353 : decode cL_law 353 = .ok (.iload 4, 2) := by decide +kernel
theorem dL_law_355 : decode cL_law 355 = .ok (.iconst 2, 1) := by decide +kernel
theorem dL_law_356 : decode cL_law 356 = .ok (.iadd, 1) := by decide +kernel
theorem dL_law_357 : decode cL_law 357 = .ok (.iaload, 1) := by decide +kernel
theorem dL_law_358 : decode cL_law 358 = .ok (.aload_n 0, 1) := by decide +kernel
theorem dL_law_359 : decode cL_law 359 = .ok (.iload 4, 2) := by decide +kernel
theorem dL_law_361 : decode cL_law 361 = .ok (.iconst 3, 1) := by decide +kernel
theorem dL_law_362 : decode cL_law 362 = .ok (.iadd, 1) := by decide +kernel
theorem dL_law_363 : decode cL_law 363 = .ok (.iaload, 1) := by decide +kernel
theorem dL_law_364 : decode cL_law 364 = .ok (.invokevirtual 116, 3) := by decide +kernel
theorem dL_law_367 : decode cL_law 367 = .ok (.istore 6, 2) := by decide +kernel
theorem dL_law_369 : decode cL_law 369 = .ok (.aload_n 2, 1) := by decide +kernel
theorem dL_law_370 : decode cL_law 370 = .ok (.invokevirtual 106, 3) := by decide +kernel
theorem dL_law_373 : decode cL_law 373 = .ok (.iload 5, 2) := by decide +kernel
theorem dL_law_375 : decode cL_law 375 = .ok (.if_icmp .eq 5, 3) := by decide +kernel
theorem dL_law_378 : decode cL_law 378 = .ok (.iconst 0, 1) := by decide +kernel
theorem dL_law_379 : decode cL_law 379 = .ok (.ireturn, 1) := by decide +kernel
theorem dL_law_380 : decode cL_law 380 = .ok (.iload 5, 2) := by decide +kernel
theorem dL_law_382 : decode cL_law 382 = .ok (.ifCond .ne 15, 3) := by decide +kernel
theorem dL_law_385 : decode cL_law 385 = .ok (.aload_n 3, 1) := by decide +kernel
theorem dL_law_386 : decode cL_law 386 = .ok (.iconst 0, 1) := by decide +kernel
theorem dL_law_387 : decode cL_law 387 = .ok (.laload, 1) := by decide +kernel
theorem dL_law_388 : decode cL_law 388 = .ok (.iload 6, 2) := by decide +kernel
theorem dL_law_390 : decode cL_law 390 = .ok (.i2l, 1) := by decide +kernel
theorem dL_law_391 : decode cL_law 391 = .ok (.lcmp, 1) := by decide +kernel
theorem dL_law_392 : decode cL_law 392 = .ok (.ifCond .eq 5, 3) := by decide +kernel
theorem dL_law_395 : decode cL_law 395 = .ok (.iconst 0, 1) := by decide +kernel
theorem dL_law_396 : decode cL_law 396 = .ok (.ireturn, 1) := by decide +kernel
theorem dL_law_397 : decode cL_law 397 = .ok (.goto 1689, 3) := by decide +kernel
theorem dL_law_400 : decode cL_law 400 = .ok (.aload_n 1, 1) := by decide +kernel
theorem dL_law_401 : decode cL_law 401 = .ok (.invokevirtual 117, 3) := by decide +kernel
theorem dL_law_404 : decode cL_law 404 = .ok (.aload_n 2, 1) := by decide +kernel
theorem dL_law_405 : decode cL_law 405 = .ok (.invokevirtual 120, 3) := by decide +kernel
theorem dL_law_408 : decode cL_law 408 = .ok (.if_icmp .eq 1678, 3) := by decide +kernel
theorem dL_law_411 : decode cL_law 411 = .ok (.iconst 0, 1) := by decide +kernel
theorem dL_law_412 : decode cL_law 412 = .ok (.ireturn, 1) := by decide +kernel
theorem dL_law_413 : decode cL_law 413 = .ok (.aload_n 1, 1) := by decide +kernel
theorem dL_law_414 : decode cL_law 414 = .ok (.aload_n 0, 1) := by decide +kernel
theorem dL_law_415 : decode cL_law 415 = .ok (.iload 4, 2) := by decide +kernel
theorem dL_law_417 : decode cL_law 417 = .ok (.iconst 1, 1) := by decide +kernel
theorem dL_law_418 : decode cL_law 418 = .ok (.iadd, 1) := by decide +kernel
theorem dL_law_419 : decode cL_law 419 = .ok (.iaload, 1) := by decide +kernel
theorem dL_law_420 : decode cL_law 420 = .ok (.aload_n 0, 1) := by decide +kernel
theorem dL_law_421 : decode cL_law 421 = .ok (.iload 4, 2) := by decide +kernel
theorem dL_law_423 : decode cL_law 423 = .ok (.iconst 2, 1) := by decide +kernel
theorem dL_law_424 : decode cL_law 424 = .ok (.iadd, 1) := by decide +kernel
theorem dL_law_425 : decode cL_law 425 = .ok (.iaload, 1) := by decide +kernel
theorem dL_law_426 : decode cL_law 426 = .ok (.aload_n 3, 1) := by decide +kernel
theorem dL_law_427 : decode cL_law 427 = .ok (.invokestatic 121, 3) := by decide +kernel
theorem dL_law_430 : decode cL_law 430 = .ok (.istore 5, 2) := by decide +kernel
theorem dL_law_432 : decode cL_law 432 = .ok (.aload_n 2, 1) := by decide +kernel
theorem dL_law_433 : decode cL_law 433 = .ok (.aload_n 0, 1) := by decide +kernel
theorem dL_law_434 : decode cL_law 434 = .ok (.iload 4, 2) := by decide +kernel
theorem dL_law_436 : decode cL_law 436 = .ok (.iconst 1, 1) := by decide +kernel
theorem dL_law_437 : decode cL_law 437 = .ok (.iadd, 1) := by decide +kernel
theorem dL_law_438 : decode cL_law 438 = .ok (.iaload, 1) := by decide +kernel
theorem dL_law_439 : decode cL_law 439 = .ok (.aload_n 0, 1) := by decide +kernel
theorem dL_law_440 : decode cL_law 440 = .ok (.iload 4, 2) := by decide +kernel
theorem dL_law_442 : decode cL_law 442 = .ok (.iconst 2, 1) := by decide +kernel
theorem dL_law_443 : decode cL_law 443 = .ok (.iadd, 1) := by decide +kernel
theorem dL_law_444 : decode cL_law 444 = .ok (.iaload, 1) := by decide +kernel
theorem dL_law_445 : decode cL_law 445 = .ok (.invokevirtual 123, 3) := by decide +kernel
theorem dL_law_448 : decode cL_law 448 = .ok (.istore 6, 2) := by decide +kernel
theorem dL_law_450 : decode cL_law 450 = .ok (.aload_n 2, 1) := by decide +kernel
theorem dL_law_451 : decode cL_law 451 = .ok (.invokevirtual 106, 3) := by decide +kernel
theorem dL_law_454 : decode cL_law 454 = .ok (.iload 5, 2) := by decide +kernel
theorem dL_law_456 : decode cL_law 456 = .ok (.if_icmp .eq 5, 3) := by decide +kernel
theorem dL_law_459 : decode cL_law 459 = .ok (.iconst 0, 1) := by decide +kernel
theorem dL_law_460 : decode cL_law 460 = .ok (.ireturn, 1) := by decide +kernel
theorem dL_law_461 : decode cL_law 461 = .ok (.iload 5, 2) := by decide +kernel
theorem dL_law_463 : decode cL_law 463 = .ok (.ifCond .ne 15, 3) := by decide +kernel
theorem dL_law_466 : decode cL_law 466 = .ok (.aload_n 3, 1) := by decide +kernel
theorem dL_law_467 : decode cL_law 467 = .ok (.iconst 0, 1) := by decide +kernel
theorem dL_law_468 : decode cL_law 468 = .ok (.laload, 1) := by decide +kernel
theorem dL_law_469 : decode cL_law 469 = .ok (.iload 6, 2) := by decide +kernel
theorem dL_law_471 : decode cL_law 471 = .ok (.i2l, 1) := by decide +kernel
theorem dL_law_472 : decode cL_law 472 = .ok (.lcmp, 1) := by decide +kernel
theorem dL_law_473 : decode cL_law 473 = .ok (.ifCond .eq 5, 3) := by decide +kernel
theorem dL_law_476 : decode cL_law 476 = .ok (.iconst 0, 1) := by decide +kernel
theorem dL_law_477 : decode cL_law 477 = .ok (.ireturn, 1) := by decide +kernel
theorem dL_law_478 : decode cL_law 478 = .ok (.goto 1608, 3) := by decide +kernel
theorem dL_law_481 : decode cL_law 481 = .ok (.aload_n 1, 1) := by decide +kernel
theorem dL_law_482 : decode cL_law 482 = .ok (.aload_n 0, 1) := by decide +kernel
theorem dL_law_483 : decode cL_law 483 = .ok (.iload 4, 2) := by decide +kernel
theorem dL_law_485 : decode cL_law 485 = .ok (.iconst 1, 1) := by decide +kernel
theorem dL_law_486 : decode cL_law 486 = .ok (.iadd, 1) := by decide +kernel
theorem dL_law_487 : decode cL_law 487 = .ok (.iaload, 1) := by decide +kernel
theorem dL_law_488 : decode cL_law 488 = .ok (.aload_n 0, 1) := by decide +kernel
theorem dL_law_489 : decode cL_law 489 = .ok (.iload 4, 2) := by decide +kernel
theorem dL_law_491 : decode cL_law 491 = .ok (.iconst 2, 1) := by decide +kernel
theorem dL_law_492 : decode cL_law 492 = .ok (.iadd, 1) := by decide +kernel
theorem dL_law_493 : decode cL_law 493 = .ok (.iaload, 1) := by decide +kernel
theorem dL_law_494 : decode cL_law 494 = .ok (.aload_n 3, 1) := by decide +kernel
theorem dL_law_495 : decode cL_law 495 = .ok (.invokestatic 124, 3) := by decide +kernel
theorem dL_law_498 : decode cL_law 498 = .ok (.istore 5, 2) := by decide +kernel
theorem dL_law_500 : decode cL_law 500 = .ok (.aload_n 2, 1) := by decide +kernel
theorem dL_law_501 : decode cL_law 501 = .ok (.aload_n 0, 1) := by decide +kernel
theorem dL_law_502 : decode cL_law 502 = .ok (.iload 4, 2) := by decide +kernel
theorem dL_law_504 : decode cL_law 504 = .ok (.iconst 1, 1) := by decide +kernel
theorem dL_law_505 : decode cL_law 505 = .ok (.iadd, 1) := by decide +kernel
theorem dL_law_506 : decode cL_law 506 = .ok (.iaload, 1) := by decide +kernel
theorem dL_law_507 : decode cL_law 507 = .ok (.aload_n 0, 1) := by decide +kernel
theorem dL_law_508 : decode cL_law 508 = .ok (.iload 4, 2) := by decide +kernel
theorem dL_law_510 : decode cL_law 510 = .ok (.iconst 2, 1) := by decide +kernel
theorem dL_law_511 : decode cL_law 511 = .ok (.iadd, 1) := by decide +kernel
theorem dL_law_512 : decode cL_law 512 = .ok (.iaload, 1) := by decide +kernel
theorem dL_law_513 : decode cL_law 513 = .ok (.invokevirtual 126, 3) := by decide +kernel
theorem dL_law_516 : decode cL_law 516 = .ok (.istore 6, 2) := by decide +kernel
theorem dL_law_518 : decode cL_law 518 = .ok (.aload_n 2, 1) := by decide +kernel
theorem dL_law_519 : decode cL_law 519 = .ok (.invokevirtual 106, 3) := by decide +kernel
theorem dL_law_522 : decode cL_law 522 = .ok (.iload 5, 2) := by decide +kernel
theorem dL_law_524 : decode cL_law 524 = .ok (.if_icmp .eq 5, 3) := by decide +kernel
theorem dL_law_527 : decode cL_law 527 = .ok (.iconst 0, 1) := by decide +kernel
theorem dL_law_528 : decode cL_law 528 = .ok (.ireturn, 1) := by decide +kernel
theorem dL_law_529 : decode cL_law 529 = .ok (.iload 5, 2) := by decide +kernel
theorem dL_law_531 : decode cL_law 531 = .ok (.ifCond .ne 15, 3) := by decide +kernel
theorem dL_law_534 : decode cL_law 534 = .ok (.aload_n 3, 1) := by decide +kernel
theorem dL_law_535 : decode cL_law 535 = .ok (.iconst 0, 1) := by decide +kernel
theorem dL_law_536 : decode cL_law 536 = .ok (.laload, 1) := by decide +kernel
theorem dL_law_537 : decode cL_law 537 = .ok (.iload 6, 2) := by decide +kernel
theorem dL_law_539 : decode cL_law 539 = .ok (.i2l, 1) := by decide +kernel
theorem dL_law_540 : decode cL_law 540 = .ok (.lcmp, 1) := by decide +kernel
theorem dL_law_541 : decode cL_law 541 = .ok (.ifCond .eq 5, 3) := by decide +kernel
theorem dL_law_544 : decode cL_law 544 = .ok (.iconst 0, 1) := by decide +kernel
theorem dL_law_545 : decode cL_law 545 = .ok (.ireturn, 1) := by decide +kernel
theorem dL_law_546 : decode cL_law 546 = .ok (.goto 1540, 3) := by decide +kernel
theorem dL_law_549 : decode cL_law 549 = .ok (.aload_n 1, 1) := by decide +kernel
theorem dL_law_550 : decode cL_law 550 = .ok (.aload_n 0, 1) := by decide +kernel
theorem dL_law_551 : decode cL_law 551 = .ok (.iload 4, 2) := by decide +kernel
theorem dL_law_553 : decode cL_law 553 = .ok (.iconst 1, 1) := by decide +kernel
theorem dL_law_554 : decode cL_law 554 = .ok (.iadd, 1) := by decide +kernel
theorem dL_law_555 : decode cL_law 555 = .ok (.iaload, 1) := by decide +kernel
theorem dL_law_556 : decode cL_law 556 = .ok (.aload_n 0, 1) := by decide +kernel
theorem dL_law_557 : decode cL_law 557 = .ok (.iload 4, 2) := by decide +kernel
theorem dL_law_559 : decode cL_law 559 = .ok (.iconst 2, 1) := by decide +kernel
theorem dL_law_560 : decode cL_law 560 = .ok (.iadd, 1) := by decide +kernel
theorem dL_law_561 : decode cL_law 561 = .ok (.iaload, 1) := by decide +kernel
theorem dL_law_562 : decode cL_law 562 = .ok (.aload_n 3, 1) := by decide +kernel
theorem dL_law_563 : decode cL_law 563 = .ok (.invokestatic 127, 3) := by decide +kernel
theorem dL_law_566 : decode cL_law 566 = .ok (.istore 5, 2) := by decide +kernel
theorem dL_law_568 : decode cL_law 568 = .ok (.aload_n 2, 1) := by decide +kernel
theorem dL_law_569 : decode cL_law 569 = .ok (.aload_n 0, 1) := by decide +kernel
theorem dL_law_570 : decode cL_law 570 = .ok (.iload 4, 2) := by decide +kernel
theorem dL_law_572 : decode cL_law 572 = .ok (.iconst 1, 1) := by decide +kernel
theorem dL_law_573 : decode cL_law 573 = .ok (.iadd, 1) := by decide +kernel
theorem dL_law_574 : decode cL_law 574 = .ok (.iaload, 1) := by decide +kernel
theorem dL_law_575 : decode cL_law 575 = .ok (.aload_n 0, 1) := by decide +kernel
theorem dL_law_576 : decode cL_law 576 = .ok (.iload 4, 2) := by decide +kernel
theorem dL_law_578 : decode cL_law 578 = .ok (.iconst 2, 1) := by decide +kernel
theorem dL_law_579 : decode cL_law 579 = .ok (.iadd, 1) := by decide +kernel
theorem dL_law_580 : decode cL_law 580 = .ok (.iaload, 1) := by decide +kernel
theorem dL_law_581 : decode cL_law 581 = .ok (.invokevirtual 129, 3) := by decide +kernel
theorem dL_law_584 : decode cL_law 584 = .ok (.istore 6, 2) := by decide +kernel
theorem dL_law_586 : decode cL_law 586 = .ok (.aload_n 2, 1) := by decide +kernel
theorem dL_law_587 : decode cL_law 587 = .ok (.invokevirtual 106, 3) := by decide +kernel
theorem dL_law_590 : decode cL_law 590 = .ok (.iload 5, 2) := by decide +kernel
theorem dL_law_592 : decode cL_law 592 = .ok (.if_icmp .eq 5, 3) := by decide +kernel
theorem dL_law_595 : decode cL_law 595 = .ok (.iconst 0, 1) := by decide +kernel
theorem dL_law_596 : decode cL_law 596 = .ok (.ireturn, 1) := by decide +kernel
theorem dL_law_597 : decode cL_law 597 = .ok (.iload 5, 2) := by decide +kernel
theorem dL_law_599 : decode cL_law 599 = .ok (.ifCond .ne 15, 3) := by decide +kernel
theorem dL_law_602 : decode cL_law 602 = .ok (.aload_n 3, 1) := by decide +kernel
theorem dL_law_603 : decode cL_law 603 = .ok (.iconst 0, 1) := by decide +kernel
theorem dL_law_604 : decode cL_law 604 = .ok (.laload, 1) := by decide +kernel
theorem dL_law_605 : decode cL_law 605 = .ok (.iload 6, 2) := by decide +kernel
theorem dL_law_607 : decode cL_law 607 = .ok (.i2l, 1) := by decide +kernel
theorem dL_law_608 : decode cL_law 608 = .ok (.lcmp, 1) := by decide +kernel
theorem dL_law_609 : decode cL_law 609 = .ok (.ifCond .eq 5, 3) := by decide +kernel
theorem dL_law_612 : decode cL_law 612 = .ok (.iconst 0, 1) := by decide +kernel
theorem dL_law_613 : decode cL_law 613 = .ok (.ireturn, 1) := by decide +kernel
theorem dL_law_614 : decode cL_law 614 = .ok (.goto 1472, 3) := by decide +kernel
theorem dL_law_617 : decode cL_law 617 = .ok (.aload_n 1, 1) := by decide +kernel
theorem dL_law_618 : decode cL_law 618 = .ok (.aload_n 0, 1) := by decide +kernel
theorem dL_law_619 : decode cL_law 619 = .ok (.iload 4, 2) := by decide +kernel
theorem dL_law_621 : decode cL_law 621 = .ok (.iconst 1, 1) := by decide +kernel
theorem dL_law_622 : decode cL_law 622 = .ok (.iadd, 1) := by decide +kernel
theorem dL_law_623 : decode cL_law 623 = .ok (.iaload, 1) := by decide +kernel
theorem dL_law_624 : decode cL_law 624 = .ok (.aload_n 0, 1) := by decide +kernel
theorem dL_law_625 : decode cL_law 625 = .ok (.iload 4, 2) := by decide +kernel
theorem dL_law_627 : decode cL_law 627 = .ok (.iconst 2, 1) := by decide +kernel
theorem dL_law_628 : decode cL_law 628 = .ok (.iadd, 1) := by decide +kernel
theorem dL_law_629 : decode cL_law 629 = .ok (.iaload, 1) := by decide +kernel
theorem dL_law_630 : decode cL_law 630 = .ok (.aload_n 0, 1) := by decide +kernel
theorem dL_law_631 : decode cL_law 631 = .ok (.iload 4, 2) := by decide +kernel
theorem dL_law_633 : decode cL_law 633 = .ok (.iconst 3, 1) := by decide +kernel
theorem dL_law_634 : decode cL_law 634 = .ok (.iadd, 1) := by decide +kernel
theorem dL_law_635 : decode cL_law 635 = .ok (.iaload, 1) := by decide +kernel
theorem dL_law_636 : decode cL_law 636 = .ok (.aload_n 3, 1) := by decide +kernel
theorem dL_law_637 : decode cL_law 637 = .ok (.invokestatic 130, 3) := by decide +kernel
theorem dL_law_640 : decode cL_law 640 = .ok (.istore 5, 2) := by decide +kernel
theorem dL_law_642 : decode cL_law 642 = .ok (.aload_n 2, 1) := by decide +kernel
theorem dL_law_643 : decode cL_law 643 = .ok (.aload_n 0, 1) := by decide +kernel
theorem dL_law_644 : decode cL_law 644 = .ok (.iload 4, 2) := by decide +kernel
theorem dL_law_646 : decode cL_law 646 = .ok (.iconst 1, 1) := by decide +kernel
theorem dL_law_647 : decode cL_law 647 = .ok (.iadd, 1) := by decide +kernel
theorem dL_law_648 : decode cL_law 648 = .ok (.iaload, 1) := by decide +kernel
theorem dL_law_649 : decode cL_law 649 = .ok (.aload_n 0, 1) := by decide +kernel
theorem dL_law_650 : decode cL_law 650 = .ok (.iload 4, 2) := by decide +kernel
theorem dL_law_652 : decode cL_law 652 = .ok (.iconst 2, 1) := by decide +kernel
theorem dL_law_653 : decode cL_law 653 = .ok (.iadd, 1) := by decide +kernel
theorem dL_law_654 : decode cL_law 654 = .ok (.iaload, 1) := by decide +kernel
theorem dL_law_655 : decode cL_law 655 = .ok (.aload_n 0, 1) := by decide +kernel
theorem dL_law_656 : decode cL_law 656 = .ok (.iload 4, 2) := by decide +kernel
theorem dL_law_658 : decode cL_law 658 = .ok (.iconst 3, 1) := by decide +kernel
theorem dL_law_659 : decode cL_law 659 = .ok (.iadd, 1) := by decide +kernel
theorem dL_law_660 : decode cL_law 660 = .ok (.iaload, 1) := by decide +kernel
theorem dL_law_661 : decode cL_law 661 = .ok (.invokevirtual 132, 3) := by decide +kernel
theorem dL_law_664 : decode cL_law 664 = .ok (.istore 6, 2) := by decide +kernel
theorem dL_law_666 : decode cL_law 666 = .ok (.aload_n 2, 1) := by decide +kernel
theorem dL_law_667 : decode cL_law 667 = .ok (.invokevirtual 106, 3) := by decide +kernel
theorem dL_law_670 : decode cL_law 670 = .ok (.iload 5, 2) := by decide +kernel
theorem dL_law_672 : decode cL_law 672 = .ok (.if_icmp .eq 5, 3) := by decide +kernel
theorem dL_law_675 : decode cL_law 675 = .ok (.iconst 0, 1) := by decide +kernel
theorem dL_law_676 : decode cL_law 676 = .ok (.ireturn, 1) := by decide +kernel
theorem dL_law_677 : decode cL_law 677 = .ok (.iload 5, 2) := by decide +kernel
theorem dL_law_679 : decode cL_law 679 = .ok (.ifCond .ne 15, 3) := by decide +kernel
theorem dL_law_682 : decode cL_law 682 = .ok (.aload_n 3, 1) := by decide +kernel
theorem dL_law_683 : decode cL_law 683 = .ok (.iconst 0, 1) := by decide +kernel
theorem dL_law_684 : decode cL_law 684 = .ok (.laload, 1) := by decide +kernel
theorem dL_law_685 : decode cL_law 685 = .ok (.iload 6, 2) := by decide +kernel
theorem dL_law_687 : decode cL_law 687 = .ok (.i2l, 1) := by decide +kernel
theorem dL_law_688 : decode cL_law 688 = .ok (.lcmp, 1) := by decide +kernel
theorem dL_law_689 : decode cL_law 689 = .ok (.ifCond .eq 5, 3) := by decide +kernel
theorem dL_law_692 : decode cL_law 692 = .ok (.iconst 0, 1) := by decide +kernel
theorem dL_law_693 : decode cL_law 693 = .ok (.ireturn, 1) := by decide +kernel
theorem dL_law_694 : decode cL_law 694 = .ok (.goto 1392, 3) := by decide +kernel
theorem dL_law_697 : decode cL_law 697 = .ok (.aload_n 1, 1) := by decide +kernel
theorem dL_law_698 : decode cL_law 698 = .ok (.aload_n 0, 1) := by decide +kernel
theorem dL_law_699 : decode cL_law 699 = .ok (.iload 4, 2) := by decide +kernel
theorem dL_law_701 : decode cL_law 701 = .ok (.iconst 1, 1) := by decide +kernel
theorem dL_law_702 : decode cL_law 702 = .ok (.iadd, 1) := by decide +kernel
theorem dL_law_703 : decode cL_law 703 = .ok (.iaload, 1) := by decide +kernel
theorem dL_law_704 : decode cL_law 704 = .ok (.aload_n 0, 1) := by decide +kernel
theorem dL_law_705 : decode cL_law 705 = .ok (.iload 4, 2) := by decide +kernel
theorem dL_law_707 : decode cL_law 707 = .ok (.iconst 2, 1) := by decide +kernel
theorem dL_law_708 : decode cL_law 708 = .ok (.iadd, 1) := by decide +kernel
theorem dL_law_709 : decode cL_law 709 = .ok (.iaload, 1) := by decide +kernel
theorem dL_law_710 : decode cL_law 710 = .ok (.aload_n 0, 1) := by decide +kernel
theorem dL_law_711 : decode cL_law 711 = .ok (.iload 4, 2) := by decide +kernel
theorem dL_law_713 : decode cL_law 713 = .ok (.iconst 3, 1) := by decide +kernel
theorem dL_law_714 : decode cL_law 714 = .ok (.iadd, 1) := by decide +kernel
theorem dL_law_715 : decode cL_law 715 = .ok (.iaload, 1) := by decide +kernel
theorem dL_law_716 : decode cL_law 716 = .ok (.aload_n 3, 1) := by decide +kernel
theorem dL_law_717 : decode cL_law 717 = .ok (.invokestatic 133, 3) := by decide +kernel
theorem dL_law_720 : decode cL_law 720 = .ok (.istore 5, 2) := by decide +kernel
theorem dL_law_722 : decode cL_law 722 = .ok (.aload_n 2, 1) := by decide +kernel
theorem dL_law_723 : decode cL_law 723 = .ok (.aload_n 0, 1) := by decide +kernel
theorem dL_law_724 : decode cL_law 724 = .ok (.iload 4, 2) := by decide +kernel
theorem dL_law_726 : decode cL_law 726 = .ok (.iconst 1, 1) := by decide +kernel
theorem dL_law_727 : decode cL_law 727 = .ok (.iadd, 1) := by decide +kernel
theorem dL_law_728 : decode cL_law 728 = .ok (.iaload, 1) := by decide +kernel
theorem dL_law_729 : decode cL_law 729 = .ok (.aload_n 0, 1) := by decide +kernel
theorem dL_law_730 : decode cL_law 730 = .ok (.iload 4, 2) := by decide +kernel
theorem dL_law_732 : decode cL_law 732 = .ok (.iconst 2, 1) := by decide +kernel
theorem dL_law_733 : decode cL_law 733 = .ok (.iadd, 1) := by decide +kernel
theorem dL_law_734 : decode cL_law 734 = .ok (.iaload, 1) := by decide +kernel
theorem dL_law_735 : decode cL_law 735 = .ok (.aload_n 0, 1) := by decide +kernel
theorem dL_law_736 : decode cL_law 736 = .ok (.iload 4, 2) := by decide +kernel
theorem dL_law_738 : decode cL_law 738 = .ok (.iconst 3, 1) := by decide +kernel
theorem dL_law_739 : decode cL_law 739 = .ok (.iadd, 1) := by decide +kernel
theorem dL_law_740 : decode cL_law 740 = .ok (.iaload, 1) := by decide +kernel
theorem dL_law_741 : decode cL_law 741 = .ok (.invokevirtual 135, 3) := by decide +kernel
theorem dL_law_744 : decode cL_law 744 = .ok (.istore 6, 2) := by decide +kernel
theorem dL_law_746 : decode cL_law 746 = .ok (.aload_n 2, 1) := by decide +kernel
theorem dL_law_747 : decode cL_law 747 = .ok (.invokevirtual 106, 3) := by decide +kernel
theorem dL_law_750 : decode cL_law 750 = .ok (.iload 5, 2) := by decide +kernel
theorem dL_law_752 : decode cL_law 752 = .ok (.if_icmp .eq 5, 3) := by decide +kernel
theorem dL_law_755 : decode cL_law 755 = .ok (.iconst 0, 1) := by decide +kernel
theorem dL_law_756 : decode cL_law 756 = .ok (.ireturn, 1) := by decide +kernel
theorem dL_law_757 : decode cL_law 757 = .ok (.iload 5, 2) := by decide +kernel
theorem dL_law_759 : decode cL_law 759 = .ok (.ifCond .ne 15, 3) := by decide +kernel
theorem dL_law_762 : decode cL_law 762 = .ok (.aload_n 3, 1) := by decide +kernel
theorem dL_law_763 : decode cL_law 763 = .ok (.iconst 0, 1) := by decide +kernel
theorem dL_law_764 : decode cL_law 764 = .ok (.laload, 1) := by decide +kernel
theorem dL_law_765 : decode cL_law 765 = .ok (.iload 6, 2) := by decide +kernel
theorem dL_law_767 : decode cL_law 767 = .ok (.i2l, 1) := by decide +kernel
theorem dL_law_768 : decode cL_law 768 = .ok (.lcmp, 1) := by decide +kernel
theorem dL_law_769 : decode cL_law 769 = .ok (.ifCond .eq 5, 3) := by decide +kernel
theorem dL_law_772 : decode cL_law 772 = .ok (.iconst 0, 1) := by decide +kernel
theorem dL_law_773 : decode cL_law 773 = .ok (.ireturn, 1) := by decide +kernel
theorem dL_law_774 : decode cL_law 774 = .ok (.goto 1312, 3) := by decide +kernel
theorem dL_law_777 : decode cL_law 777 = .ok (.aload_n 1, 1) := by decide +kernel
theorem dL_law_778 : decode cL_law 778 = .ok (.aload_n 0, 1) := by decide +kernel
theorem dL_law_779 : decode cL_law 779 = .ok (.iload 4, 2) := by decide +kernel
theorem dL_law_781 : decode cL_law 781 = .ok (.iconst 1, 1) := by decide +kernel
theorem dL_law_782 : decode cL_law 782 = .ok (.iadd, 1) := by decide +kernel
theorem dL_law_783 : decode cL_law 783 = .ok (.iaload, 1) := by decide +kernel
theorem dL_law_784 : decode cL_law 784 = .ok (.aload_n 3, 1) := by decide +kernel
theorem dL_law_785 : decode cL_law 785 = .ok (.invokestatic 136, 3) := by decide +kernel
theorem dL_law_788 : decode cL_law 788 = .ok (.istore 5, 2) := by decide +kernel
theorem dL_law_790 : decode cL_law 790 = .ok (.aload_n 2, 1) := by decide +kernel
theorem dL_law_791 : decode cL_law 791 = .ok (.aload_n 0, 1) := by decide +kernel
theorem dL_law_792 : decode cL_law 792 = .ok (.iload 4, 2) := by decide +kernel
theorem dL_law_794 : decode cL_law 794 = .ok (.iconst 1, 1) := by decide +kernel
theorem dL_law_795 : decode cL_law 795 = .ok (.iadd, 1) := by decide +kernel
theorem dL_law_796 : decode cL_law 796 = .ok (.iaload, 1) := by decide +kernel
theorem dL_law_797 : decode cL_law 797 = .ok (.invokevirtual 138, 3) := by decide +kernel
theorem dL_law_800 : decode cL_law 800 = .ok (.istore 6, 2) := by decide +kernel
theorem dL_law_802 : decode cL_law 802 = .ok (.aload_n 2, 1) := by decide +kernel
theorem dL_law_803 : decode cL_law 803 = .ok (.invokevirtual 106, 3) := by decide +kernel
theorem dL_law_806 : decode cL_law 806 = .ok (.iload 5, 2) := by decide +kernel
theorem dL_law_808 : decode cL_law 808 = .ok (.if_icmp .eq 5, 3) := by decide +kernel
theorem dL_law_811 : decode cL_law 811 = .ok (.iconst 0, 1) := by decide +kernel
theorem dL_law_812 : decode cL_law 812 = .ok (.ireturn, 1) := by decide +kernel
theorem dL_law_813 : decode cL_law 813 = .ok (.iload 5, 2) := by decide +kernel
theorem dL_law_815 : decode cL_law 815 = .ok (.ifCond .ne 15, 3) := by decide +kernel
theorem dL_law_818 : decode cL_law 818 = .ok (.aload_n 3, 1) := by decide +kernel
theorem dL_law_819 : decode cL_law 819 = .ok (.iconst 0, 1) := by decide +kernel
theorem dL_law_820 : decode cL_law 820 = .ok (.laload, 1) := by decide +kernel
theorem dL_law_821 : decode cL_law 821 = .ok (.iload 6, 2) := by decide +kernel
theorem dL_law_823 : decode cL_law 823 = .ok (.i2l, 1) := by decide +kernel
theorem dL_law_824 : decode cL_law 824 = .ok (.lcmp, 1) := by decide +kernel
theorem dL_law_825 : decode cL_law 825 = .ok (.ifCond .eq 5, 3) := by decide +kernel
theorem dL_law_828 : decode cL_law 828 = .ok (.iconst 0, 1) := by decide +kernel
theorem dL_law_829 : decode cL_law 829 = .ok (.ireturn, 1) := by decide +kernel
theorem dL_law_830 : decode cL_law 830 = .ok (.goto 1256, 3) := by decide +kernel
theorem dL_law_833 : decode cL_law 833 = .ok (.aload_n 1, 1) := by decide +kernel
theorem dL_law_834 : decode cL_law 834 = .ok (.aload_n 0, 1) := by decide +kernel
theorem dL_law_835 : decode cL_law 835 = .ok (.iload 4, 2) := by decide +kernel
theorem dL_law_837 : decode cL_law 837 = .ok (.iconst 1, 1) := by decide +kernel
theorem dL_law_838 : decode cL_law 838 = .ok (.iadd, 1) := by decide +kernel
theorem dL_law_839 : decode cL_law 839 = .ok (.iaload, 1) := by decide +kernel
theorem dL_law_840 : decode cL_law 840 = .ok (.aload_n 0, 1) := by decide +kernel
theorem dL_law_841 : decode cL_law 841 = .ok (.iload 4, 2) := by decide +kernel
theorem dL_law_843 : decode cL_law 843 = .ok (.iconst 2, 1) := by decide +kernel
theorem dL_law_844 : decode cL_law 844 = .ok (.iadd, 1) := by decide +kernel
theorem dL_law_845 : decode cL_law 845 = .ok (.iaload, 1) := by decide +kernel
theorem dL_law_846 : decode cL_law 846 = .ok (.aload_n 3, 1) := by decide +kernel
theorem dL_law_847 : decode cL_law 847 = .ok (.invokestatic 139, 3) := by decide +kernel
theorem dL_law_850 : decode cL_law 850 = .ok (.istore 5, 2) := by decide +kernel
theorem dL_law_852 : decode cL_law 852 = .ok (.aload_n 2, 1) := by decide +kernel
theorem dL_law_853 : decode cL_law 853 = .ok (.aload_n 0, 1) := by decide +kernel
theorem dL_law_854 : decode cL_law 854 = .ok (.iload 4, 2) := by decide +kernel
theorem dL_law_856 : decode cL_law 856 = .ok (.iconst 1, 1) := by decide +kernel
theorem dL_law_857 : decode cL_law 857 = .ok (.iadd, 1) := by decide +kernel
theorem dL_law_858 : decode cL_law 858 = .ok (.iaload, 1) := by decide +kernel
theorem dL_law_859 : decode cL_law 859 = .ok (.aload_n 0, 1) := by decide +kernel
theorem dL_law_860 : decode cL_law 860 = .ok (.iload 4, 2) := by decide +kernel
theorem dL_law_862 : decode cL_law 862 = .ok (.iconst 2, 1) := by decide +kernel
theorem dL_law_863 : decode cL_law 863 = .ok (.iadd, 1) := by decide +kernel
theorem dL_law_864 : decode cL_law 864 = .ok (.iaload, 1) := by decide +kernel
theorem dL_law_865 : decode cL_law 865 = .ok (.invokevirtual 141, 3) := by decide +kernel
theorem dL_law_868 : decode cL_law 868 = .ok (.istore 6, 2) := by decide +kernel
theorem dL_law_870 : decode cL_law 870 = .ok (.aload_n 2, 1) := by decide +kernel
theorem dL_law_871 : decode cL_law 871 = .ok (.invokevirtual 106, 3) := by decide +kernel
theorem dL_law_874 : decode cL_law 874 = .ok (.iload 5, 2) := by decide +kernel
theorem dL_law_876 : decode cL_law 876 = .ok (.if_icmp .eq 5, 3) := by decide +kernel
theorem dL_law_879 : decode cL_law 879 = .ok (.iconst 0, 1) := by decide +kernel
theorem dL_law_880 : decode cL_law 880 = .ok (.ireturn, 1) := by decide +kernel
theorem dL_law_881 : decode cL_law 881 = .ok (.iload 5, 2) := by decide +kernel
theorem dL_law_883 : decode cL_law 883 = .ok (.ifCond .ne 15, 3) := by decide +kernel
theorem dL_law_886 : decode cL_law 886 = .ok (.aload_n 3, 1) := by decide +kernel
theorem dL_law_887 : decode cL_law 887 = .ok (.iconst 0, 1) := by decide +kernel
theorem dL_law_888 : decode cL_law 888 = .ok (.laload, 1) := by decide +kernel
theorem dL_law_889 : decode cL_law 889 = .ok (.iload 6, 2) := by decide +kernel
theorem dL_law_891 : decode cL_law 891 = .ok (.i2l, 1) := by decide +kernel
theorem dL_law_892 : decode cL_law 892 = .ok (.lcmp, 1) := by decide +kernel
theorem dL_law_893 : decode cL_law 893 = .ok (.ifCond .eq 5, 3) := by decide +kernel
theorem dL_law_896 : decode cL_law 896 = .ok (.iconst 0, 1) := by decide +kernel
theorem dL_law_897 : decode cL_law 897 = .ok (.ireturn, 1) := by decide +kernel
theorem dL_law_898 : decode cL_law 898 = .ok (.goto 1188, 3) := by decide +kernel
theorem dL_law_901 : decode cL_law 901 = .ok (.aload_n 1, 1) := by decide +kernel
theorem dL_law_902 : decode cL_law 902 = .ok (.aload_n 0, 1) := by decide +kernel
theorem dL_law_903 : decode cL_law 903 = .ok (.iload 4, 2) := by decide +kernel
theorem dL_law_905 : decode cL_law 905 = .ok (.iconst 1, 1) := by decide +kernel
theorem dL_law_906 : decode cL_law 906 = .ok (.iadd, 1) := by decide +kernel
theorem dL_law_907 : decode cL_law 907 = .ok (.iaload, 1) := by decide +kernel
theorem dL_law_908 : decode cL_law 908 = .ok (.invokevirtual 142, 3) := by decide +kernel
theorem dL_law_911 : decode cL_law 911 = .ok (.aload_n 2, 1) := by decide +kernel
theorem dL_law_912 : decode cL_law 912 = .ok (.aload_n 0, 1) := by decide +kernel
theorem dL_law_913 : decode cL_law 913 = .ok (.iload 4, 2) := by decide +kernel
theorem dL_law_915 : decode cL_law 915 = .ok (.iconst 1, 1) := by decide +kernel
theorem dL_law_916 : decode cL_law 916 = .ok (.iadd, 1) := by decide +kernel
theorem dL_law_917 : decode cL_law 917 = .ok (.iaload, 1) := by decide +kernel
theorem dL_law_918 : decode cL_law 918 = .ok (.invokevirtual 145, 3) := by decide +kernel
theorem dL_law_921 : decode cL_law 921 = .ok (.if_icmp .eq 1165, 3) := by decide +kernel
theorem dL_law_924 : decode cL_law 924 = .ok (.iconst 0, 1) := by decide +kernel
theorem dL_law_925 : decode cL_law 925 = .ok (.ireturn, 1) := by decide +kernel
theorem dL_law_926 : decode cL_law 926 = .ok (.aload_n 1, 1) := by decide +kernel
theorem dL_law_927 : decode cL_law 927 = .ok (.aload_n 0, 1) := by decide +kernel
theorem dL_law_928 : decode cL_law 928 = .ok (.iload 4, 2) := by decide +kernel
theorem dL_law_930 : decode cL_law 930 = .ok (.iconst 1, 1) := by decide +kernel
theorem dL_law_931 : decode cL_law 931 = .ok (.iadd, 1) := by decide +kernel
theorem dL_law_932 : decode cL_law 932 = .ok (.iaload, 1) := by decide +kernel
theorem dL_law_933 : decode cL_law 933 = .ok (.aload_n 0, 1) := by decide +kernel
theorem dL_law_934 : decode cL_law 934 = .ok (.iload 4, 2) := by decide +kernel
theorem dL_law_936 : decode cL_law 936 = .ok (.iconst 2, 1) := by decide +kernel
theorem dL_law_937 : decode cL_law 937 = .ok (.iadd, 1) := by decide +kernel
theorem dL_law_938 : decode cL_law 938 = .ok (.iaload, 1) := by decide +kernel
theorem dL_law_939 : decode cL_law 939 = .ok (.aload_n 0, 1) := by decide +kernel
theorem dL_law_940 : decode cL_law 940 = .ok (.iload 4, 2) := by decide +kernel
theorem dL_law_942 : decode cL_law 942 = .ok (.iconst 3, 1) := by decide +kernel
theorem dL_law_943 : decode cL_law 943 = .ok (.iadd, 1) := by decide +kernel
theorem dL_law_944 : decode cL_law 944 = .ok (.iaload, 1) := by decide +kernel
theorem dL_law_945 : decode cL_law 945 = .ok (.aload_n 3, 1) := by decide +kernel
theorem dL_law_946 : decode cL_law 946 = .ok (.invokestatic 146, 3) := by decide +kernel
theorem dL_law_949 : decode cL_law 949 = .ok (.istore 5, 2) := by decide +kernel
theorem dL_law_951 : decode cL_law 951 = .ok (.aload_n 2, 1) := by decide +kernel
theorem dL_law_952 : decode cL_law 952 = .ok (.aload_n 0, 1) := by decide +kernel
theorem dL_law_953 : decode cL_law 953 = .ok (.iload 4, 2) := by decide +kernel
theorem dL_law_955 : decode cL_law 955 = .ok (.iconst 1, 1) := by decide +kernel
theorem dL_law_956 : decode cL_law 956 = .ok (.iadd, 1) := by decide +kernel
theorem dL_law_957 : decode cL_law 957 = .ok (.iaload, 1) := by decide +kernel
theorem dL_law_958 : decode cL_law 958 = .ok (.aload_n 0, 1) := by decide +kernel
theorem dL_law_959 : decode cL_law 959 = .ok (.iload 4, 2) := by decide +kernel
theorem dL_law_961 : decode cL_law 961 = .ok (.iconst 2, 1) := by decide +kernel
theorem dL_law_962 : decode cL_law 962 = .ok (.iadd, 1) := by decide +kernel
theorem dL_law_963 : decode cL_law 963 = .ok (.iaload, 1) := by decide +kernel
theorem dL_law_964 : decode cL_law 964 = .ok (.aload_n 0, 1) := by decide +kernel
theorem dL_law_965 : decode cL_law 965 = .ok (.iload 4, 2) := by decide +kernel
theorem dL_law_967 : decode cL_law 967 = .ok (.iconst 3, 1) := by decide +kernel
theorem dL_law_968 : decode cL_law 968 = .ok (.iadd, 1) := by decide +kernel
theorem dL_law_969 : decode cL_law 969 = .ok (.iaload, 1) := by decide +kernel
theorem dL_law_970 : decode cL_law 970 = .ok (.invokevirtual 148, 3) := by decide +kernel
theorem dL_law_973 : decode cL_law 973 = .ok (.istore 6, 2) := by decide +kernel
theorem dL_law_975 : decode cL_law 975 = .ok (.aload_n 2, 1) := by decide +kernel
theorem dL_law_976 : decode cL_law 976 = .ok (.invokevirtual 106, 3) := by decide +kernel
theorem dL_law_979 : decode cL_law 979 = .ok (.iload 5, 2) := by decide +kernel
theorem dL_law_981 : decode cL_law 981 = .ok (.if_icmp .eq 5, 3) := by decide +kernel
theorem dL_law_984 : decode cL_law 984 = .ok (.iconst 0, 1) := by decide +kernel
theorem dL_law_985 : decode cL_law 985 = .ok (.ireturn, 1) := by decide +kernel
theorem dL_law_986 : decode cL_law 986 = .ok (.iload 5, 2) := by decide +kernel
theorem dL_law_988 : decode cL_law 988 = .ok (.ifCond .ne 15, 3) := by decide +kernel
theorem dL_law_991 : decode cL_law 991 = .ok (.aload_n 3, 1) := by decide +kernel
theorem dL_law_992 : decode cL_law 992 = .ok (.iconst 0, 1) := by decide +kernel
theorem dL_law_993 : decode cL_law 993 = .ok (.laload, 1) := by decide +kernel
theorem dL_law_994 : decode cL_law 994 = .ok (.iload 6, 2) := by decide +kernel
theorem dL_law_996 : decode cL_law 996 = .ok (.i2l, 1) := by decide +kernel
theorem dL_law_997 : decode cL_law 997 = .ok (.lcmp, 1) := by decide +kernel
theorem dL_law_998 : decode cL_law 998 = .ok (.ifCond .eq 5, 3) := by decide +kernel
theorem dL_law_1001 : decode cL_law 1001 = .ok (.iconst 0, 1) := by decide +kernel
theorem dL_law_1002 : decode cL_law 1002 = .ok (.ireturn, 1) := by decide +kernel
theorem dL_law_1003 : decode cL_law 1003 = .ok (.goto 1083, 3) := by decide +kernel
theorem dL_law_1006 : decode cL_law 1006 = .ok (.aload_n 1, 1) := by decide +kernel
theorem dL_law_1007 : decode cL_law 1007 = .ok (.aload_n 0, 1) := by decide +kernel
theorem dL_law_1008 : decode cL_law 1008 = .ok (.iload 4, 2) := by decide +kernel
theorem dL_law_1010 : decode cL_law 1010 = .ok (.iconst 1, 1) := by decide +kernel
theorem dL_law_1011 : decode cL_law 1011 = .ok (.iadd, 1) := by decide +kernel
theorem dL_law_1012 : decode cL_law 1012 = .ok (.iaload, 1) := by decide +kernel
theorem dL_law_1013 : decode cL_law 1013 = .ok (.aload_n 3, 1) := by decide +kernel
theorem dL_law_1014 : decode cL_law 1014 = .ok (.invokestatic 149, 3) := by decide +kernel
theorem dL_law_1017 : decode cL_law 1017 = .ok (.istore 5, 2) := by decide +kernel
theorem dL_law_1019 : decode cL_law 1019 = .ok (.aload_n 2, 1) := by decide +kernel
theorem dL_law_1020 : decode cL_law 1020 = .ok (.aload_n 0, 1) := by decide +kernel
theorem dL_law_1021 : decode cL_law 1021 = .ok (.iload 4, 2) := by decide +kernel
theorem dL_law_1023 : decode cL_law 1023 = .ok (.iconst 1, 1) := by decide +kernel
theorem dL_law_1024 : decode cL_law 1024 = .ok (.iadd, 1) := by decide +kernel
theorem dL_law_1025 : decode cL_law 1025 = .ok (.iaload, 1) := by decide +kernel
theorem dL_law_1026 : decode cL_law 1026 = .ok (.invokevirtual 151, 3) := by decide +kernel
theorem dL_law_1029 : decode cL_law 1029 = .ok (.istore 6, 2) := by decide +kernel
theorem dL_law_1031 : decode cL_law 1031 = .ok (.aload_n 2, 1) := by decide +kernel
theorem dL_law_1032 : decode cL_law 1032 = .ok (.invokevirtual 106, 3) := by decide +kernel
theorem dL_law_1035 : decode cL_law 1035 = .ok (.iload 5, 2) := by decide +kernel
theorem dL_law_1037 : decode cL_law 1037 = .ok (.if_icmp .eq 5, 3) := by decide +kernel
theorem dL_law_1040 : decode cL_law 1040 = .ok (.iconst 0, 1) := by decide +kernel
theorem dL_law_1041 : decode cL_law 1041 = .ok (.ireturn, 1) := by decide +kernel
theorem dL_law_1042 : decode cL_law 1042 = .ok (.iload 5, 2) := by decide +kernel
theorem dL_law_1044 : decode cL_law 1044 = .ok (.ifCond .ne 15, 3) := by decide +kernel
theorem dL_law_1047 : decode cL_law 1047 = .ok (.aload_n 3, 1) := by decide +kernel
theorem dL_law_1048 : decode cL_law 1048 = .ok (.iconst 0, 1) := by decide +kernel
theorem dL_law_1049 : decode cL_law 1049 = .ok (.laload, 1) := by decide +kernel
theorem dL_law_1050 : decode cL_law 1050 = .ok (.iload 6, 2) := by decide +kernel
theorem dL_law_1052 : decode cL_law 1052 = .ok (.i2l, 1) := by decide +kernel
theorem dL_law_1053 : decode cL_law 1053 = .ok (.lcmp, 1) := by decide +kernel
theorem dL_law_1054 : decode cL_law 1054 = .ok (.ifCond .eq 5, 3) := by decide +kernel
theorem dL_law_1057 : decode cL_law 1057 = .ok (.iconst 0, 1) := by decide +kernel
theorem dL_law_1058 : decode cL_law 1058 = .ok (.ireturn, 1) := by decide +kernel
theorem dL_law_1059 : decode cL_law 1059 = .ok (.goto 1027, 3) := by decide +kernel
theorem dL_law_1062 : decode cL_law 1062 = .ok (.aload_n 1, 1) := by decide +kernel
theorem dL_law_1063 : decode cL_law 1063 = .ok (.aload_n 0, 1) := by decide +kernel
theorem dL_law_1064 : decode cL_law 1064 = .ok (.iload 4, 2) := by decide +kernel
theorem dL_law_1066 : decode cL_law 1066 = .ok (.iconst 1, 1) := by decide +kernel
theorem dL_law_1067 : decode cL_law 1067 = .ok (.iadd, 1) := by decide +kernel
theorem dL_law_1068 : decode cL_law 1068 = .ok (.iaload, 1) := by decide +kernel
theorem dL_law_1069 : decode cL_law 1069 = .ok (.aload_n 0, 1) := by decide +kernel
theorem dL_law_1070 : decode cL_law 1070 = .ok (.iload 4, 2) := by decide +kernel
theorem dL_law_1072 : decode cL_law 1072 = .ok (.iconst 2, 1) := by decide +kernel
theorem dL_law_1073 : decode cL_law 1073 = .ok (.iadd, 1) := by decide +kernel
theorem dL_law_1074 : decode cL_law 1074 = .ok (.iaload, 1) := by decide +kernel
theorem dL_law_1075 : decode cL_law 1075 = .ok (.aload_n 0, 1) := by decide +kernel
theorem dL_law_1076 : decode cL_law 1076 = .ok (.iload 4, 2) := by decide +kernel
theorem dL_law_1078 : decode cL_law 1078 = .ok (.iconst 3, 1) := by decide +kernel
theorem dL_law_1079 : decode cL_law 1079 = .ok (.iadd, 1) := by decide +kernel
theorem dL_law_1080 : decode cL_law 1080 = .ok (.iaload, 1) := by decide +kernel
theorem dL_law_1081 : decode cL_law 1081 = .ok (.aload_n 0, 1) := by decide +kernel
theorem dL_law_1082 : decode cL_law 1082 = .ok (.iload 4, 2) := by decide +kernel
theorem dL_law_1084 : decode cL_law 1084 = .ok (.iconst 4, 1) := by decide +kernel
theorem dL_law_1085 : decode cL_law 1085 = .ok (.iadd, 1) := by decide +kernel
theorem dL_law_1086 : decode cL_law 1086 = .ok (.iaload, 1) := by decide +kernel
theorem dL_law_1087 : decode cL_law 1087 = .ok (.aload_n 0, 1) := by decide +kernel
theorem dL_law_1088 : decode cL_law 1088 = .ok (.iload 4, 2) := by decide +kernel
theorem dL_law_1090 : decode cL_law 1090 = .ok (.iconst 5, 1) := by decide +kernel
theorem dL_law_1091 : decode cL_law 1091 = .ok (.iadd, 1) := by decide +kernel
theorem dL_law_1092 : decode cL_law 1092 = .ok (.iaload, 1) := by decide +kernel
theorem dL_law_1093 : decode cL_law 1093 = .ok (.aload_n 3, 1) := by decide +kernel
theorem dL_law_1094 : decode cL_law 1094 = .ok (.invokestatic 152, 3) := by decide +kernel
theorem dL_law_1097 : decode cL_law 1097 = .ok (.istore 5, 2) := by decide +kernel
theorem dL_law_1099 : decode cL_law 1099 = .ok (.aload_n 2, 1) := by decide +kernel
theorem dL_law_1100 : decode cL_law 1100 = .ok (.aload_n 0, 1) := by decide +kernel
theorem dL_law_1101 : decode cL_law 1101 = .ok (.iload 4, 2) := by decide +kernel
theorem dL_law_1103 : decode cL_law 1103 = .ok (.iconst 1, 1) := by decide +kernel
theorem dL_law_1104 : decode cL_law 1104 = .ok (.iadd, 1) := by decide +kernel
theorem dL_law_1105 : decode cL_law 1105 = .ok (.iaload, 1) := by decide +kernel
theorem dL_law_1106 : decode cL_law 1106 = .ok (.aload_n 0, 1) := by decide +kernel
theorem dL_law_1107 : decode cL_law 1107 = .ok (.iload 4, 2) := by decide +kernel
theorem dL_law_1109 : decode cL_law 1109 = .ok (.iconst 2, 1) := by decide +kernel
theorem dL_law_1110 : decode cL_law 1110 = .ok (.iadd, 1) := by decide +kernel
theorem dL_law_1111 : decode cL_law 1111 = .ok (.iaload, 1) := by decide +kernel
theorem dL_law_1112 : decode cL_law 1112 = .ok (.aload_n 0, 1) := by decide +kernel
theorem dL_law_1113 : decode cL_law 1113 = .ok (.iload 4, 2) := by decide +kernel
theorem dL_law_1115 : decode cL_law 1115 = .ok (.iconst 3, 1) := by decide +kernel
theorem dL_law_1116 : decode cL_law 1116 = .ok (.iadd, 1) := by decide +kernel
theorem dL_law_1117 : decode cL_law 1117 = .ok (.iaload, 1) := by decide +kernel
theorem dL_law_1118 : decode cL_law 1118 = .ok (.aload_n 0, 1) := by decide +kernel
theorem dL_law_1119 : decode cL_law 1119 = .ok (.iload 4, 2) := by decide +kernel
theorem dL_law_1121 : decode cL_law 1121 = .ok (.iconst 4, 1) := by decide +kernel
theorem dL_law_1122 : decode cL_law 1122 = .ok (.iadd, 1) := by decide +kernel
theorem dL_law_1123 : decode cL_law 1123 = .ok (.iaload, 1) := by decide +kernel
theorem dL_law_1124 : decode cL_law 1124 = .ok (.aload_n 0, 1) := by decide +kernel
theorem dL_law_1125 : decode cL_law 1125 = .ok (.iload 4, 2) := by decide +kernel
theorem dL_law_1127 : decode cL_law 1127 = .ok (.iconst 5, 1) := by decide +kernel
theorem dL_law_1128 : decode cL_law 1128 = .ok (.iadd, 1) := by decide +kernel
theorem dL_law_1129 : decode cL_law 1129 = .ok (.iaload, 1) := by decide +kernel
theorem dL_law_1130 : decode cL_law 1130 = .ok (.invokevirtual 155, 3) := by decide +kernel
theorem dL_law_1133 : decode cL_law 1133 = .ok (.istore 6, 2) := by decide +kernel
theorem dL_law_1135 : decode cL_law 1135 = .ok (.aload_n 2, 1) := by decide +kernel
theorem dL_law_1136 : decode cL_law 1136 = .ok (.invokevirtual 106, 3) := by decide +kernel
theorem dL_law_1139 : decode cL_law 1139 = .ok (.iload 5, 2) := by decide +kernel
theorem dL_law_1141 : decode cL_law 1141 = .ok (.if_icmp .eq 5, 3) := by decide +kernel
theorem dL_law_1144 : decode cL_law 1144 = .ok (.iconst 0, 1) := by decide +kernel
theorem dL_law_1145 : decode cL_law 1145 = .ok (.ireturn, 1) := by decide +kernel
theorem dL_law_1146 : decode cL_law 1146 = .ok (.iload 5, 2) := by decide +kernel
theorem dL_law_1148 : decode cL_law 1148 = .ok (.ifCond .ne 15, 3) := by decide +kernel
theorem dL_law_1151 : decode cL_law 1151 = .ok (.aload_n 3, 1) := by decide +kernel
theorem dL_law_1152 : decode cL_law 1152 = .ok (.iconst 0, 1) := by decide +kernel
theorem dL_law_1153 : decode cL_law 1153 = .ok (.laload, 1) := by decide +kernel
theorem dL_law_1154 : decode cL_law 1154 = .ok (.iload 6, 2) := by decide +kernel
theorem dL_law_1156 : decode cL_law 1156 = .ok (.i2l, 1) := by decide +kernel
theorem dL_law_1157 : decode cL_law 1157 = .ok (.lcmp, 1) := by decide +kernel
theorem dL_law_1158 : decode cL_law 1158 = .ok (.ifCond .eq 5, 3) := by decide +kernel
theorem dL_law_1161 : decode cL_law 1161 = .ok (.iconst 0, 1) := by decide +kernel
theorem dL_law_1162 : decode cL_law 1162 = .ok (.ireturn, 1) := by decide +kernel
theorem dL_law_1163 : decode cL_law 1163 = .ok (.goto 923, 3) := by decide +kernel
theorem dL_law_1166 : decode cL_law 1166 = .ok (.aload_n 1, 1) := by decide +kernel
theorem dL_law_1167 : decode cL_law 1167 = .ok (.aload_n 0, 1) := by decide +kernel
theorem dL_law_1168 : decode cL_law 1168 = .ok (.iload 4, 2) := by decide +kernel
theorem dL_law_1170 : decode cL_law 1170 = .ok (.iconst 1, 1) := by decide +kernel
theorem dL_law_1171 : decode cL_law 1171 = .ok (.iadd, 1) := by decide +kernel
theorem dL_law_1172 : decode cL_law 1172 = .ok (.iaload, 1) := by decide +kernel
theorem dL_law_1173 : decode cL_law 1173 = .ok (.aload_n 3, 1) := by decide +kernel
theorem dL_law_1174 : decode cL_law 1174 = .ok (.invokestatic 156, 3) := by decide +kernel
theorem dL_law_1177 : decode cL_law 1177 = .ok (.istore 5, 2) := by decide +kernel
theorem dL_law_1179 : decode cL_law 1179 = .ok (.aload_n 2, 1) := by decide +kernel
theorem dL_law_1180 : decode cL_law 1180 = .ok (.aload_n 0, 1) := by decide +kernel
theorem dL_law_1181 : decode cL_law 1181 = .ok (.iload 4, 2) := by decide +kernel
theorem dL_law_1183 : decode cL_law 1183 = .ok (.iconst 1, 1) := by decide +kernel
theorem dL_law_1184 : decode cL_law 1184 = .ok (.iadd, 1) := by decide +kernel
theorem dL_law_1185 : decode cL_law 1185 = .ok (.iaload, 1) := by decide +kernel
theorem dL_law_1186 : decode cL_law 1186 = .ok (.invokevirtual 158, 3) := by decide +kernel
theorem dL_law_1189 : decode cL_law 1189 = .ok (.istore 6, 2) := by decide +kernel
theorem dL_law_1191 : decode cL_law 1191 = .ok (.aload_n 2, 1) := by decide +kernel
theorem dL_law_1192 : decode cL_law 1192 = .ok (.invokevirtual 106, 3) := by decide +kernel
theorem dL_law_1195 : decode cL_law 1195 = .ok (.iload 5, 2) := by decide +kernel
theorem dL_law_1197 : decode cL_law 1197 = .ok (.if_icmp .eq 5, 3) := by decide +kernel
theorem dL_law_1200 : decode cL_law 1200 = .ok (.iconst 0, 1) := by decide +kernel
theorem dL_law_1201 : decode cL_law 1201 = .ok (.ireturn, 1) := by decide +kernel
theorem dL_law_1202 : decode cL_law 1202 = .ok (.iload 5, 2) := by decide +kernel
theorem dL_law_1204 : decode cL_law 1204 = .ok (.ifCond .ne 15, 3) := by decide +kernel
theorem dL_law_1207 : decode cL_law 1207 = .ok (.aload_n 3, 1) := by decide +kernel
theorem dL_law_1208 : decode cL_law 1208 = .ok (.iconst 0, 1) := by decide +kernel
theorem dL_law_1209 : decode cL_law 1209 = .ok (.laload, 1) := by decide +kernel
theorem dL_law_1210 : decode cL_law 1210 = .ok (.iload 6, 2) := by decide +kernel
theorem dL_law_1212 : decode cL_law 1212 = .ok (.i2l, 1) := by decide +kernel
theorem dL_law_1213 : decode cL_law 1213 = .ok (.lcmp, 1) := by decide +kernel
theorem dL_law_1214 : decode cL_law 1214 = .ok (.ifCond .eq 5, 3) := by decide +kernel
theorem dL_law_1217 : decode cL_law 1217 = .ok (.iconst 0, 1) := by decide +kernel
theorem dL_law_1218 : decode cL_law 1218 = .ok (.ireturn, 1) := by decide +kernel
theorem dL_law_1219 : decode cL_law 1219 = .ok (.goto 867, 3) := by decide +kernel
theorem dL_law_1222 : decode cL_law 1222 = .ok (.aload_n 1, 1) := by decide +kernel
theorem dL_law_1223 : decode cL_law 1223 = .ok (.aload_n 0, 1) := by decide +kernel
theorem dL_law_1224 : decode cL_law 1224 = .ok (.iload 4, 2) := by decide +kernel
theorem dL_law_1226 : decode cL_law 1226 = .ok (.iconst 1, 1) := by decide +kernel
theorem dL_law_1227 : decode cL_law 1227 = .ok (.iadd, 1) := by decide +kernel
theorem dL_law_1228 : decode cL_law 1228 = .ok (.iaload, 1) := by decide +kernel
theorem dL_law_1229 : decode cL_law 1229 = .ok (.aload_n 0, 1) := by decide +kernel
theorem dL_law_1230 : decode cL_law 1230 = .ok (.iload 4, 2) := by decide +kernel
theorem dL_law_1232 : decode cL_law 1232 = .ok (.iconst 2, 1) := by decide +kernel
theorem dL_law_1233 : decode cL_law 1233 = .ok (.iadd, 1) := by decide +kernel
theorem dL_law_1234 : decode cL_law 1234 = .ok (.iaload, 1) := by decide +kernel
theorem dL_law_1235 : decode cL_law 1235 = .ok (.ifCond .eq 7, 3) := by decide +kernel
theorem dL_law_1238 : decode cL_law 1238 = .ok (.iconst 1, 1) := by decide +kernel
theorem dL_law_1239 : decode cL_law 1239 = .ok (.goto 4, 3) := by decide +kernel
theorem dL_law_1242 : decode cL_law 1242 = .ok (.iconst 0, 1) := by decide +kernel
theorem dL_law_1243 : decode cL_law 1243 = .ok (.aload_n 3, 1) := by decide +kernel
theorem dL_law_1244 : decode cL_law 1244 = .ok (.invokestatic 159, 3) := by decide +kernel
theorem dL_law_1247 : decode cL_law 1247 = .ok (.istore 5, 2) := by decide +kernel
theorem dL_law_1249 : decode cL_law 1249 = .ok (.aload_n 2, 1) := by decide +kernel
theorem dL_law_1250 : decode cL_law 1250 = .ok (.aload_n 0, 1) := by decide +kernel
theorem dL_law_1251 : decode cL_law 1251 = .ok (.iload 4, 2) := by decide +kernel
theorem dL_law_1253 : decode cL_law 1253 = .ok (.iconst 1, 1) := by decide +kernel
theorem dL_law_1254 : decode cL_law 1254 = .ok (.iadd, 1) := by decide +kernel
theorem dL_law_1255 : decode cL_law 1255 = .ok (.iaload, 1) := by decide +kernel
theorem dL_law_1256 : decode cL_law 1256 = .ok (.aload_n 0, 1) := by decide +kernel
theorem dL_law_1257 : decode cL_law 1257 = .ok (.iload 4, 2) := by decide +kernel
theorem dL_law_1259 : decode cL_law 1259 = .ok (.iconst 2, 1) := by decide +kernel
theorem dL_law_1260 : decode cL_law 1260 = .ok (.iadd, 1) := by decide +kernel
theorem dL_law_1261 : decode cL_law 1261 = .ok (.iaload, 1) := by decide +kernel
theorem dL_law_1262 : decode cL_law 1262 = .ok (.ifCond .eq 7, 3) := by decide +kernel
theorem dL_law_1265 : decode cL_law 1265 = .ok (.iconst 1, 1) := by decide +kernel
theorem dL_law_1266 : decode cL_law 1266 = .ok (.goto 4, 3) := by decide +kernel
theorem dL_law_1269 : decode cL_law 1269 = .ok (.iconst 0, 1) := by decide +kernel
theorem dL_law_1270 : decode cL_law 1270 = .ok (.invokevirtual 162, 3) := by decide +kernel
theorem dL_law_1273 : decode cL_law 1273 = .ok (.istore 6, 2) := by decide +kernel
theorem dL_law_1275 : decode cL_law 1275 = .ok (.aload_n 2, 1) := by decide +kernel
theorem dL_law_1276 : decode cL_law 1276 = .ok (.invokevirtual 106, 3) := by decide +kernel
theorem dL_law_1279 : decode cL_law 1279 = .ok (.iload 5, 2) := by decide +kernel
theorem dL_law_1281 : decode cL_law 1281 = .ok (.if_icmp .eq 5, 3) := by decide +kernel
theorem dL_law_1284 : decode cL_law 1284 = .ok (.iconst 0, 1) := by decide +kernel
theorem dL_law_1285 : decode cL_law 1285 = .ok (.ireturn, 1) := by decide +kernel
theorem dL_law_1286 : decode cL_law 1286 = .ok (.iload 5, 2) := by decide +kernel
theorem dL_law_1288 : decode cL_law 1288 = .ok (.ifCond .ne 22, 3) := by decide +kernel
theorem dL_law_1291 : decode cL_law 1291 = .ok (.aload_n 3, 1) := by decide +kernel
theorem dL_law_1292 : decode cL_law 1292 = .ok (.iconst 0, 1) := by decide +kernel
theorem dL_law_1293 : decode cL_law 1293 = .ok (.laload, 1) := by decide +kernel
theorem dL_law_1294 : decode cL_law 1294 = .ok (.iload 6, 2) := by decide +kernel
theorem dL_law_1296 : decode cL_law 1296 = .ok (.ifCond .eq 7, 3) := by decide +kernel
theorem dL_law_1299 : decode cL_law 1299 = .ok (.lconst 1, 1) := by decide +kernel
theorem dL_law_1300 : decode cL_law 1300 = .ok (.goto 4, 3) := by decide +kernel
theorem dL_law_1303 : decode cL_law 1303 = .ok (.lconst 0, 1) := by decide +kernel
theorem dL_law_1304 : decode cL_law 1304 = .ok (.lcmp, 1) := by decide +kernel
theorem dL_law_1305 : decode cL_law 1305 = .ok (.ifCond .eq 5, 3) := by decide +kernel
theorem dL_law_1308 : decode cL_law 1308 = .ok (.iconst 0, 1) := by decide +kernel
theorem dL_law_1309 : decode cL_law 1309 = .ok (.ireturn, 1) := by decide +kernel
theorem dL_law_1310 : decode cL_law 1310 = .ok (.goto 776, 3) := by decide +kernel
theorem dL_law_1313 : decode cL_law 1313 = .ok (.aload_n 1, 1) := by decide +kernel
theorem dL_law_1314 : decode cL_law 1314 = .ok (.aload_n 0, 1) := by decide +kernel
theorem dL_law_1315 : decode cL_law 1315 = .ok (.iload 4, 2) := by decide +kernel
theorem dL_law_1317 : decode cL_law 1317 = .ok (.iconst 1, 1) := by decide +kernel
theorem dL_law_1318 : decode cL_law 1318 = .ok (.iadd, 1) := by decide +kernel
theorem dL_law_1319 : decode cL_law 1319 = .ok (.iaload, 1) := by decide +kernel
theorem dL_law_1320 : decode cL_law 1320 = .ok (.aload_n 3, 1) := by decide +kernel
theorem dL_law_1321 : decode cL_law 1321 = .ok (.invokestatic 163, 3) := by decide +kernel
theorem dL_law_1324 : decode cL_law 1324 = .ok (.istore 5, 2) := by decide +kernel
theorem dL_law_1326 : decode cL_law 1326 = .ok (.aload_n 2, 1) := by decide +kernel
theorem dL_law_1327 : decode cL_law 1327 = .ok (.aload_n 0, 1) := by decide +kernel
theorem dL_law_1328 : decode cL_law 1328 = .ok (.iload 4, 2) := by decide +kernel
theorem dL_law_1330 : decode cL_law 1330 = .ok (.iconst 1, 1) := by decide +kernel
theorem dL_law_1331 : decode cL_law 1331 = .ok (.iadd, 1) := by decide +kernel
theorem dL_law_1332 : decode cL_law 1332 = .ok (.iaload, 1) := by decide +kernel
theorem dL_law_1333 : decode cL_law 1333 = .ok (.invokevirtual 165, 3) := by decide +kernel
theorem dL_law_1336 : decode cL_law 1336 = .ok (.istore 6, 2) := by decide +kernel
theorem dL_law_1338 : decode cL_law 1338 = .ok (.aload_n 2, 1) := by decide +kernel
theorem dL_law_1339 : decode cL_law 1339 = .ok (.invokevirtual 106, 3) := by decide +kernel
theorem dL_law_1342 : decode cL_law 1342 = .ok (.iload 5, 2) := by decide +kernel
theorem dL_law_1344 : decode cL_law 1344 = .ok (.if_icmp .eq 5, 3) := by decide +kernel
theorem dL_law_1347 : decode cL_law 1347 = .ok (.iconst 0, 1) := by decide +kernel
theorem dL_law_1348 : decode cL_law 1348 = .ok (.ireturn, 1) := by decide +kernel
theorem dL_law_1349 : decode cL_law 1349 = .ok (.iload 5, 2) := by decide +kernel
theorem dL_law_1351 : decode cL_law 1351 = .ok (.ifCond .ne 15, 3) := by decide +kernel
theorem dL_law_1354 : decode cL_law 1354 = .ok (.aload_n 3, 1) := by decide +kernel
theorem dL_law_1355 : decode cL_law 1355 = .ok (.iconst 0, 1) := by decide +kernel
theorem dL_law_1356 : decode cL_law 1356 = .ok (.laload, 1) := by decide +kernel
theorem dL_law_1357 : decode cL_law 1357 = .ok (.iload 6, 2) := by decide +kernel
theorem dL_law_1359 : decode cL_law 1359 = .ok (.i2l, 1) := by decide +kernel
theorem dL_law_1360 : decode cL_law 1360 = .ok (.lcmp, 1) := by decide +kernel
theorem dL_law_1361 : decode cL_law 1361 = .ok (.ifCond .eq 5, 3) := by decide +kernel
theorem dL_law_1364 : decode cL_law 1364 = .ok (.iconst 0, 1) := by decide +kernel
theorem dL_law_1365 : decode cL_law 1365 = .ok (.ireturn, 1) := by decide +kernel
theorem dL_law_1366 : decode cL_law 1366 = .ok (.goto 720, 3) := by decide +kernel
theorem dL_law_1369 : decode cL_law 1369 = .ok (.aload_n 1, 1) := by decide +kernel
theorem dL_law_1370 : decode cL_law 1370 = .ok (.aload_n 0, 1) := by decide +kernel
theorem dL_law_1371 : decode cL_law 1371 = .ok (.iload 4, 2) := by decide +kernel
theorem dL_law_1373 : decode cL_law 1373 = .ok (.iconst 1, 1) := by decide +kernel
theorem dL_law_1374 : decode cL_law 1374 = .ok (.iadd, 1) := by decide +kernel
theorem dL_law_1375 : decode cL_law 1375 = .ok (.iaload, 1) := by decide +kernel
theorem dL_law_1376 : decode cL_law 1376 = .ok (.aload_n 0, 1) := by decide +kernel
theorem dL_law_1377 : decode cL_law 1377 = .ok (.iload 4, 2) := by decide +kernel
theorem dL_law_1379 : decode cL_law 1379 = .ok (.iconst 2, 1) := by decide +kernel
theorem dL_law_1380 : decode cL_law 1380 = .ok (.iadd, 1) := by decide +kernel
theorem dL_law_1381 : decode cL_law 1381 = .ok (.iaload, 1) := by decide +kernel
theorem dL_law_1382 : decode cL_law 1382 = .ok (.aload_n 3, 1) := by decide +kernel
theorem dL_law_1383 : decode cL_law 1383 = .ok (.invokestatic 166, 3) := by decide +kernel
theorem dL_law_1386 : decode cL_law 1386 = .ok (.istore 5, 2) := by decide +kernel
theorem dL_law_1388 : decode cL_law 1388 = .ok (.aload_n 2, 1) := by decide +kernel
theorem dL_law_1389 : decode cL_law 1389 = .ok (.aload_n 0, 1) := by decide +kernel
theorem dL_law_1390 : decode cL_law 1390 = .ok (.iload 4, 2) := by decide +kernel
theorem dL_law_1392 : decode cL_law 1392 = .ok (.iconst 1, 1) := by decide +kernel
theorem dL_law_1393 : decode cL_law 1393 = .ok (.iadd, 1) := by decide +kernel
theorem dL_law_1394 : decode cL_law 1394 = .ok (.iaload, 1) := by decide +kernel
theorem dL_law_1395 : decode cL_law 1395 = .ok (.aload_n 0, 1) := by decide +kernel
theorem dL_law_1396 : decode cL_law 1396 = .ok (.iload 4, 2) := by decide +kernel
theorem dL_law_1398 : decode cL_law 1398 = .ok (.iconst 2, 1) := by decide +kernel
theorem dL_law_1399 : decode cL_law 1399 = .ok (.iadd, 1) := by decide +kernel
theorem dL_law_1400 : decode cL_law 1400 = .ok (.iaload, 1) := by decide +kernel
theorem dL_law_1401 : decode cL_law 1401 = .ok (.invokevirtual 168, 3) := by decide +kernel
theorem dL_law_1404 : decode cL_law 1404 = .ok (.istore 6, 2) := by decide +kernel
theorem dL_law_1406 : decode cL_law 1406 = .ok (.aload_n 2, 1) := by decide +kernel
theorem dL_law_1407 : decode cL_law 1407 = .ok (.invokevirtual 106, 3) := by decide +kernel
theorem dL_law_1410 : decode cL_law 1410 = .ok (.iload 5, 2) := by decide +kernel
theorem dL_law_1412 : decode cL_law 1412 = .ok (.if_icmp .eq 5, 3) := by decide +kernel
theorem dL_law_1415 : decode cL_law 1415 = .ok (.iconst 0, 1) := by decide +kernel
theorem dL_law_1416 : decode cL_law 1416 = .ok (.ireturn, 1) := by decide +kernel
theorem dL_law_1417 : decode cL_law 1417 = .ok (.iload 5, 2) := by decide +kernel
theorem dL_law_1419 : decode cL_law 1419 = .ok (.ifCond .ne 15, 3) := by decide +kernel
theorem dL_law_1422 : decode cL_law 1422 = .ok (.aload_n 3, 1) := by decide +kernel
theorem dL_law_1423 : decode cL_law 1423 = .ok (.iconst 0, 1) := by decide +kernel
theorem dL_law_1424 : decode cL_law 1424 = .ok (.laload, 1) := by decide +kernel
theorem dL_law_1425 : decode cL_law 1425 = .ok (.iload 6, 2) := by decide +kernel
theorem dL_law_1427 : decode cL_law 1427 = .ok (.i2l, 1) := by decide +kernel
theorem dL_law_1428 : decode cL_law 1428 = .ok (.lcmp, 1) := by decide +kernel
theorem dL_law_1429 : decode cL_law 1429 = .ok (.ifCond .eq 5, 3) := by decide +kernel
theorem dL_law_1432 : decode cL_law 1432 = .ok (.iconst 0, 1) := by decide +kernel
theorem dL_law_1433 : decode cL_law 1433 = .ok (.ireturn, 1) := by decide +kernel
theorem dL_law_1434 : decode cL_law 1434 = .ok (.goto 652, 3) := by decide +kernel
theorem dL_law_1437 : decode cL_law 1437 = .ok (.aload_n 1, 1) := by decide +kernel
theorem dL_law_1438 : decode cL_law 1438 = .ok (.aload_n 0, 1) := by decide +kernel
theorem dL_law_1439 : decode cL_law 1439 = .ok (.iload 4, 2) := by decide +kernel
theorem dL_law_1441 : decode cL_law 1441 = .ok (.iconst 1, 1) := by decide +kernel
theorem dL_law_1442 : decode cL_law 1442 = .ok (.iadd, 1) := by decide +kernel
theorem dL_law_1443 : decode cL_law 1443 = .ok (.iaload, 1) := by decide +kernel
theorem dL_law_1444 : decode cL_law 1444 = .ok (.aload_n 0, 1) := by decide +kernel
theorem dL_law_1445 : decode cL_law 1445 = .ok (.iload 4, 2) := by decide +kernel
theorem dL_law_1447 : decode cL_law 1447 = .ok (.iconst 2, 1) := by decide +kernel
theorem dL_law_1448 : decode cL_law 1448 = .ok (.iadd, 1) := by decide +kernel
theorem dL_law_1449 : decode cL_law 1449 = .ok (.iaload, 1) := by decide +kernel
theorem dL_law_1450 : decode cL_law 1450 = .ok (.aload_n 0, 1) := by decide +kernel
theorem dL_law_1451 : decode cL_law 1451 = .ok (.iload 4, 2) := by decide +kernel
theorem dL_law_1453 : decode cL_law 1453 = .ok (.iconst 3, 1) := by decide +kernel
theorem dL_law_1454 : decode cL_law 1454 = .ok (.iadd, 1) := by decide +kernel
theorem dL_law_1455 : decode cL_law 1455 = .ok (.iaload, 1) := by decide +kernel
theorem dL_law_1456 : decode cL_law 1456 = .ok (.aload_n 3, 1) := by decide +kernel
theorem dL_law_1457 : decode cL_law 1457 = .ok (.invokestatic 169, 3) := by decide +kernel
theorem dL_law_1460 : decode cL_law 1460 = .ok (.istore 5, 2) := by decide +kernel
theorem dL_law_1462 : decode cL_law 1462 = .ok (.aload_n 2, 1) := by decide +kernel
theorem dL_law_1463 : decode cL_law 1463 = .ok (.aload_n 0, 1) := by decide +kernel
theorem dL_law_1464 : decode cL_law 1464 = .ok (.iload 4, 2) := by decide +kernel
theorem dL_law_1466 : decode cL_law 1466 = .ok (.iconst 1, 1) := by decide +kernel
theorem dL_law_1467 : decode cL_law 1467 = .ok (.iadd, 1) := by decide +kernel
theorem dL_law_1468 : decode cL_law 1468 = .ok (.iaload, 1) := by decide +kernel
theorem dL_law_1469 : decode cL_law 1469 = .ok (.aload_n 0, 1) := by decide +kernel
theorem dL_law_1470 : decode cL_law 1470 = .ok (.iload 4, 2) := by decide +kernel
theorem dL_law_1472 : decode cL_law 1472 = .ok (.iconst 2, 1) := by decide +kernel
theorem dL_law_1473 : decode cL_law 1473 = .ok (.iadd, 1) := by decide +kernel
theorem dL_law_1474 : decode cL_law 1474 = .ok (.iaload, 1) := by decide +kernel
theorem dL_law_1475 : decode cL_law 1475 = .ok (.aload_n 0, 1) := by decide +kernel
theorem dL_law_1476 : decode cL_law 1476 = .ok (.iload 4, 2) := by decide +kernel
theorem dL_law_1478 : decode cL_law 1478 = .ok (.iconst 3, 1) := by decide +kernel
theorem dL_law_1479 : decode cL_law 1479 = .ok (.iadd, 1) := by decide +kernel
theorem dL_law_1480 : decode cL_law 1480 = .ok (.iaload, 1) := by decide +kernel
theorem dL_law_1481 : decode cL_law 1481 = .ok (.invokevirtual 171, 3) := by decide +kernel
theorem dL_law_1484 : decode cL_law 1484 = .ok (.istore 6, 2) := by decide +kernel
theorem dL_law_1486 : decode cL_law 1486 = .ok (.aload_n 2, 1) := by decide +kernel
theorem dL_law_1487 : decode cL_law 1487 = .ok (.invokevirtual 106, 3) := by decide +kernel
theorem dL_law_1490 : decode cL_law 1490 = .ok (.iload 5, 2) := by decide +kernel
theorem dL_law_1492 : decode cL_law 1492 = .ok (.if_icmp .eq 5, 3) := by decide +kernel
theorem dL_law_1495 : decode cL_law 1495 = .ok (.iconst 0, 1) := by decide +kernel
theorem dL_law_1496 : decode cL_law 1496 = .ok (.ireturn, 1) := by decide +kernel
theorem dL_law_1497 : decode cL_law 1497 = .ok (.iload 5, 2) := by decide +kernel
theorem dL_law_1499 : decode cL_law 1499 = .ok (.ifCond .ne 15, 3) := by decide +kernel
theorem dL_law_1502 : decode cL_law 1502 = .ok (.aload_n 3, 1) := by decide +kernel
theorem dL_law_1503 : decode cL_law 1503 = .ok (.iconst 0, 1) := by decide +kernel
theorem dL_law_1504 : decode cL_law 1504 = .ok (.laload, 1) := by decide +kernel
theorem dL_law_1505 : decode cL_law 1505 = .ok (.iload 6, 2) := by decide +kernel
theorem dL_law_1507 : decode cL_law 1507 = .ok (.i2l, 1) := by decide +kernel
theorem dL_law_1508 : decode cL_law 1508 = .ok (.lcmp, 1) := by decide +kernel
theorem dL_law_1509 : decode cL_law 1509 = .ok (.ifCond .eq 5, 3) := by decide +kernel
theorem dL_law_1512 : decode cL_law 1512 = .ok (.iconst 0, 1) := by decide +kernel
theorem dL_law_1513 : decode cL_law 1513 = .ok (.ireturn, 1) := by decide +kernel
theorem dL_law_1514 : decode cL_law 1514 = .ok (.goto 572, 3) := by decide +kernel
theorem dL_law_1517 : decode cL_law 1517 = .ok (.aload_n 1, 1) := by decide +kernel
theorem dL_law_1518 : decode cL_law 1518 = .ok (.aload_n 0, 1) := by decide +kernel
theorem dL_law_1519 : decode cL_law 1519 = .ok (.iload 4, 2) := by decide +kernel
theorem dL_law_1521 : decode cL_law 1521 = .ok (.iconst 1, 1) := by decide +kernel
theorem dL_law_1522 : decode cL_law 1522 = .ok (.iadd, 1) := by decide +kernel
theorem dL_law_1523 : decode cL_law 1523 = .ok (.iaload, 1) := by decide +kernel
theorem dL_law_1524 : decode cL_law 1524 = .ok (.aload_n 3, 1) := by decide +kernel
theorem dL_law_1525 : decode cL_law 1525 = .ok (.invokestatic 172, 3) := by decide +kernel
theorem dL_law_1528 : decode cL_law 1528 = .ok (.istore 5, 2) := by decide +kernel
theorem dL_law_1530 : decode cL_law 1530 = .ok (.aload_n 2, 1) := by decide +kernel
theorem dL_law_1531 : decode cL_law 1531 = .ok (.aload_n 0, 1) := by decide +kernel
theorem dL_law_1532 : decode cL_law 1532 = .ok (.iload 4, 2) := by decide +kernel
theorem dL_law_1534 : decode cL_law 1534 = .ok (.iconst 1, 1) := by decide +kernel
theorem dL_law_1535 : decode cL_law 1535 = .ok (.iadd, 1) := by decide +kernel
theorem dL_law_1536 : decode cL_law 1536 = .ok (.iaload, 1) := by decide +kernel
theorem dL_law_1537 : decode cL_law 1537 = .ok (.invokevirtual 174, 3) := by decide +kernel
theorem dL_law_1540 : decode cL_law 1540 = .ok (.istore 6, 2) := by decide +kernel
theorem dL_law_1542 : decode cL_law 1542 = .ok (.aload_n 2, 1) := by decide +kernel
theorem dL_law_1543 : decode cL_law 1543 = .ok (.invokevirtual 106, 3) := by decide +kernel
theorem dL_law_1546 : decode cL_law 1546 = .ok (.iload 5, 2) := by decide +kernel
theorem dL_law_1548 : decode cL_law 1548 = .ok (.if_icmp .eq 5, 3) := by decide +kernel
theorem dL_law_1551 : decode cL_law 1551 = .ok (.iconst 0, 1) := by decide +kernel
theorem dL_law_1552 : decode cL_law 1552 = .ok (.ireturn, 1) := by decide +kernel
theorem dL_law_1553 : decode cL_law 1553 = .ok (.iload 5, 2) := by decide +kernel
theorem dL_law_1555 : decode cL_law 1555 = .ok (.ifCond .ne 15, 3) := by decide +kernel
theorem dL_law_1558 : decode cL_law 1558 = .ok (.aload_n 3, 1) := by decide +kernel
theorem dL_law_1559 : decode cL_law 1559 = .ok (.iconst 0, 1) := by decide +kernel
theorem dL_law_1560 : decode cL_law 1560 = .ok (.laload, 1) := by decide +kernel
theorem dL_law_1561 : decode cL_law 1561 = .ok (.iload 6, 2) := by decide +kernel
theorem dL_law_1563 : decode cL_law 1563 = .ok (.i2l, 1) := by decide +kernel
theorem dL_law_1564 : decode cL_law 1564 = .ok (.lcmp, 1) := by decide +kernel
theorem dL_law_1565 : decode cL_law 1565 = .ok (.ifCond .eq 5, 3) := by decide +kernel
theorem dL_law_1568 : decode cL_law 1568 = .ok (.iconst 0, 1) := by decide +kernel
theorem dL_law_1569 : decode cL_law 1569 = .ok (.ireturn, 1) := by decide +kernel
theorem dL_law_1570 : decode cL_law 1570 = .ok (.goto 516, 3) := by decide +kernel
theorem dL_law_1573 : decode cL_law 1573 = .ok (.aload_n 1, 1) := by decide +kernel
theorem dL_law_1574 : decode cL_law 1574 = .ok (.aload_n 0, 1) := by decide +kernel
theorem dL_law_1575 : decode cL_law 1575 = .ok (.iload 4, 2) := by decide +kernel
theorem dL_law_1577 : decode cL_law 1577 = .ok (.iconst 1, 1) := by decide +kernel
theorem dL_law_1578 : decode cL_law 1578 = .ok (.iadd, 1) := by decide +kernel
theorem dL_law_1579 : decode cL_law 1579 = .ok (.iaload, 1) := by decide +kernel
theorem dL_law_1580 : decode cL_law 1580 = .ok (.invokevirtual 175, 3) := by decide +kernel
theorem dL_law_1583 : decode cL_law 1583 = .ok (.aload_n 2, 1) := by decide +kernel
theorem dL_law_1584 : decode cL_law 1584 = .ok (.aload_n 0, 1) := by decide +kernel
theorem dL_law_1585 : decode cL_law 1585 = .ok (.iload 4, 2) := by decide +kernel
theorem dL_law_1587 : decode cL_law 1587 = .ok (.iconst 1, 1) := by decide +kernel
theorem dL_law_1588 : decode cL_law 1588 = .ok (.iadd, 1) := by decide +kernel
theorem dL_law_1589 : decode cL_law 1589 = .ok (.iaload, 1) := by decide +kernel
theorem dL_law_1590 : decode cL_law 1590 = .ok (.invokevirtual 178, 3) := by decide +kernel
theorem dL_law_1593 : decode cL_law 1593 = .ok (.if_icmp .eq 493, 3) := by decide +kernel
theorem dL_law_1596 : decode cL_law 1596 = .ok (.iconst 0, 1) := by decide +kernel
theorem dL_law_1597 : decode cL_law 1597 = .ok (.ireturn, 1) := by decide +kernel
theorem dL_law_1598 : decode cL_law 1598 = .ok (.aload_n 1, 1) := by decide +kernel
theorem dL_law_1599 : decode cL_law 1599 = .ok (.aload_n 0, 1) := by decide +kernel
theorem dL_law_1600 : decode cL_law 1600 = .ok (.iload 4, 2) := by decide +kernel
theorem dL_law_1602 : decode cL_law 1602 = .ok (.iconst 1, 1) := by decide +kernel
theorem dL_law_1603 : decode cL_law 1603 = .ok (.iadd, 1) := by decide +kernel
theorem dL_law_1604 : decode cL_law 1604 = .ok (.iaload, 1) := by decide +kernel
theorem dL_law_1605 : decode cL_law 1605 = .ok (.aload_n 0, 1) := by decide +kernel
theorem dL_law_1606 : decode cL_law 1606 = .ok (.iload 4, 2) := by decide +kernel
theorem dL_law_1608 : decode cL_law 1608 = .ok (.iconst 2, 1) := by decide +kernel
theorem dL_law_1609 : decode cL_law 1609 = .ok (.iadd, 1) := by decide +kernel
theorem dL_law_1610 : decode cL_law 1610 = .ok (.iaload, 1) := by decide +kernel
theorem dL_law_1611 : decode cL_law 1611 = .ok (.invokevirtual 179, 3) := by decide +kernel
theorem dL_law_1614 : decode cL_law 1614 = .ok (.aload_n 2, 1) := by decide +kernel
theorem dL_law_1615 : decode cL_law 1615 = .ok (.aload_n 0, 1) := by decide +kernel
theorem dL_law_1616 : decode cL_law 1616 = .ok (.iload 4, 2) := by decide +kernel
theorem dL_law_1618 : decode cL_law 1618 = .ok (.iconst 1, 1) := by decide +kernel
theorem dL_law_1619 : decode cL_law 1619 = .ok (.iadd, 1) := by decide +kernel
theorem dL_law_1620 : decode cL_law 1620 = .ok (.iaload, 1) := by decide +kernel
theorem dL_law_1621 : decode cL_law 1621 = .ok (.aload_n 0, 1) := by decide +kernel
theorem dL_law_1622 : decode cL_law 1622 = .ok (.iload 4, 2) := by decide +kernel
theorem dL_law_1624 : decode cL_law 1624 = .ok (.iconst 2, 1) := by decide +kernel
theorem dL_law_1625 : decode cL_law 1625 = .ok (.iadd, 1) := by decide +kernel
theorem dL_law_1626 : decode cL_law 1626 = .ok (.iaload, 1) := by decide +kernel
theorem dL_law_1627 : decode cL_law 1627 = .ok (.invokevirtual 182, 3) := by decide +kernel
theorem dL_law_1630 : decode cL_law 1630 = .ok (.if_icmp .eq 456, 3) := by decide +kernel
theorem dL_law_1633 : decode cL_law 1633 = .ok (.iconst 0, 1) := by decide +kernel
theorem dL_law_1634 : decode cL_law 1634 = .ok (.ireturn, 1) := by decide +kernel
theorem dL_law_1635 : decode cL_law 1635 = .ok (.aload_n 1, 1) := by decide +kernel
theorem dL_law_1636 : decode cL_law 1636 = .ok (.aload_n 0, 1) := by decide +kernel
theorem dL_law_1637 : decode cL_law 1637 = .ok (.iload 4, 2) := by decide +kernel
theorem dL_law_1639 : decode cL_law 1639 = .ok (.iconst 1, 1) := by decide +kernel
theorem dL_law_1640 : decode cL_law 1640 = .ok (.iadd, 1) := by decide +kernel
theorem dL_law_1641 : decode cL_law 1641 = .ok (.iaload, 1) := by decide +kernel
theorem dL_law_1642 : decode cL_law 1642 = .ok (.aload_n 0, 1) := by decide +kernel
theorem dL_law_1643 : decode cL_law 1643 = .ok (.iload 4, 2) := by decide +kernel
theorem dL_law_1645 : decode cL_law 1645 = .ok (.iconst 2, 1) := by decide +kernel
theorem dL_law_1646 : decode cL_law 1646 = .ok (.iadd, 1) := by decide +kernel
theorem dL_law_1647 : decode cL_law 1647 = .ok (.iaload, 1) := by decide +kernel
theorem dL_law_1648 : decode cL_law 1648 = .ok (.invokevirtual 183, 3) := by decide +kernel
theorem dL_law_1651 : decode cL_law 1651 = .ok (.aload_n 2, 1) := by decide +kernel
theorem dL_law_1652 : decode cL_law 1652 = .ok (.aload_n 0, 1) := by decide +kernel
theorem dL_law_1653 : decode cL_law 1653 = .ok (.iload 4, 2) := by decide +kernel
theorem dL_law_1655 : decode cL_law 1655 = .ok (.iconst 1, 1) := by decide +kernel
theorem dL_law_1656 : decode cL_law 1656 = .ok (.iadd, 1) := by decide +kernel
theorem dL_law_1657 : decode cL_law 1657 = .ok (.iaload, 1) := by decide +kernel
theorem dL_law_1658 : decode cL_law 1658 = .ok (.aload_n 0, 1) := by decide +kernel
theorem dL_law_1659 : decode cL_law 1659 = .ok (.iload 4, 2) := by decide +kernel
theorem dL_law_1661 : decode cL_law 1661 = .ok (.iconst 2, 1) := by decide +kernel
theorem dL_law_1662 : decode cL_law 1662 = .ok (.iadd, 1) := by decide +kernel
theorem dL_law_1663 : decode cL_law 1663 = .ok (.iaload, 1) := by decide +kernel
theorem dL_law_1664 : decode cL_law 1664 = .ok (.invokevirtual 186, 3) := by decide +kernel
theorem dL_law_1667 : decode cL_law 1667 = .ok (.if_icmp .eq 419, 3) := by decide +kernel
theorem dL_law_1670 : decode cL_law 1670 = .ok (.iconst 0, 1) := by decide +kernel
theorem dL_law_1671 : decode cL_law 1671 = .ok (.ireturn, 1) := by decide +kernel
theorem dL_law_1672 : decode cL_law 1672 = .ok (.aload_n 1, 1) := by decide +kernel
theorem dL_law_1673 : decode cL_law 1673 = .ok (.aload_n 0, 1) := by decide +kernel
theorem dL_law_1674 : decode cL_law 1674 = .ok (.iload 4, 2) := by decide +kernel
theorem dL_law_1676 : decode cL_law 1676 = .ok (.iconst 1, 1) := by decide +kernel
theorem dL_law_1677 : decode cL_law 1677 = .ok (.iadd, 1) := by decide +kernel
theorem dL_law_1678 : decode cL_law 1678 = .ok (.iaload, 1) := by decide +kernel
theorem dL_law_1679 : decode cL_law 1679 = .ok (.aload_n 0, 1) := by decide +kernel
theorem dL_law_1680 : decode cL_law 1680 = .ok (.iload 4, 2) := by decide +kernel
theorem dL_law_1682 : decode cL_law 1682 = .ok (.iconst 2, 1) := by decide +kernel
theorem dL_law_1683 : decode cL_law 1683 = .ok (.iadd, 1) := by decide +kernel
theorem dL_law_1684 : decode cL_law 1684 = .ok (.iaload, 1) := by decide +kernel
theorem dL_law_1685 : decode cL_law 1685 = .ok (.invokevirtual 187, 3) := by decide +kernel
theorem dL_law_1688 : decode cL_law 1688 = .ok (.aload_n 2, 1) := by decide +kernel
theorem dL_law_1689 : decode cL_law 1689 = .ok (.aload_n 0, 1) := by decide +kernel
theorem dL_law_1690 : decode cL_law 1690 = .ok (.iload 4, 2) := by decide +kernel
theorem dL_law_1692 : decode cL_law 1692 = .ok (.iconst 1, 1) := by decide +kernel
theorem dL_law_1693 : decode cL_law 1693 = .ok (.iadd, 1) := by decide +kernel
theorem dL_law_1694 : decode cL_law 1694 = .ok (.iaload, 1) := by decide +kernel
theorem dL_law_1695 : decode cL_law 1695 = .ok (.aload_n 0, 1) := by decide +kernel
theorem dL_law_1696 : decode cL_law 1696 = .ok (.iload 4, 2) := by decide +kernel
theorem dL_law_1698 : decode cL_law 1698 = .ok (.iconst 2, 1) := by decide +kernel
theorem dL_law_1699 : decode cL_law 1699 = .ok (.iadd, 1) := by decide +kernel
theorem dL_law_1700 : decode cL_law 1700 = .ok (.iaload, 1) := by decide +kernel
theorem dL_law_1701 : decode cL_law 1701 = .ok (.invokevirtual 190, 3) := by decide +kernel
theorem dL_law_1704 : decode cL_law 1704 = .ok (.if_icmp .eq 382, 3) := by decide +kernel
theorem dL_law_1707 : decode cL_law 1707 = .ok (.iconst 0, 1) := by decide +kernel
theorem dL_law_1708 : decode cL_law 1708 = .ok (.ireturn, 1) := by decide +kernel
theorem dL_law_1709 : decode cL_law 1709 = .ok (.aload_n 1, 1) := by decide +kernel
theorem dL_law_1710 : decode cL_law 1710 = .ok (.aload_n 0, 1) := by decide +kernel
theorem dL_law_1711 : decode cL_law 1711 = .ok (.iload 4, 2) := by decide +kernel
theorem dL_law_1713 : decode cL_law 1713 = .ok (.iconst 1, 1) := by decide +kernel
theorem dL_law_1714 : decode cL_law 1714 = .ok (.iadd, 1) := by decide +kernel
theorem dL_law_1715 : decode cL_law 1715 = .ok (.iaload, 1) := by decide +kernel
theorem dL_law_1716 : decode cL_law 1716 = .ok (.aload_n 3, 1) := by decide +kernel
theorem dL_law_1717 : decode cL_law 1717 = .ok (.invokestatic 191, 3) := by decide +kernel
theorem dL_law_1720 : decode cL_law 1720 = .ok (.istore 5, 2) := by decide +kernel
theorem dL_law_1722 : decode cL_law 1722 = .ok (.aload_n 2, 1) := by decide +kernel
theorem dL_law_1723 : decode cL_law 1723 = .ok (.aload_n 0, 1) := by decide +kernel
theorem dL_law_1724 : decode cL_law 1724 = .ok (.iload 4, 2) := by decide +kernel
theorem dL_law_1726 : decode cL_law 1726 = .ok (.iconst 1, 1) := by decide +kernel
theorem dL_law_1727 : decode cL_law 1727 = .ok (.iadd, 1) := by decide +kernel
theorem dL_law_1728 : decode cL_law 1728 = .ok (.iaload, 1) := by decide +kernel
theorem dL_law_1729 : decode cL_law 1729 = .ok (.invokevirtual 193, 3) := by decide +kernel
theorem dL_law_1732 : decode cL_law 1732 = .ok (.istore 6, 2) := by decide +kernel
theorem dL_law_1734 : decode cL_law 1734 = .ok (.aload_n 2, 1) := by decide +kernel
theorem dL_law_1735 : decode cL_law 1735 = .ok (.invokevirtual 106, 3) := by decide +kernel
theorem dL_law_1738 : decode cL_law 1738 = .ok (.iload 5, 2) := by decide +kernel
theorem dL_law_1740 : decode cL_law 1740 = .ok (.if_icmp .eq 5, 3) := by decide +kernel
theorem dL_law_1743 : decode cL_law 1743 = .ok (.iconst 0, 1) := by decide +kernel
theorem dL_law_1744 : decode cL_law 1744 = .ok (.ireturn, 1) := by decide +kernel
theorem dL_law_1745 : decode cL_law 1745 = .ok (.iload 5, 2) := by decide +kernel
theorem dL_law_1747 : decode cL_law 1747 = .ok (.ifCond .ne 15, 3) := by decide +kernel
theorem dL_law_1750 : decode cL_law 1750 = .ok (.aload_n 3, 1) := by decide +kernel
theorem dL_law_1751 : decode cL_law 1751 = .ok (.iconst 0, 1) := by decide +kernel
theorem dL_law_1752 : decode cL_law 1752 = .ok (.laload, 1) := by decide +kernel
theorem dL_law_1753 : decode cL_law 1753 = .ok (.iload 6, 2) := by decide +kernel
theorem dL_law_1755 : decode cL_law 1755 = .ok (.i2l, 1) := by decide +kernel
theorem dL_law_1756 : decode cL_law 1756 = .ok (.lcmp, 1) := by decide +kernel
theorem dL_law_1757 : decode cL_law 1757 = .ok (.ifCond .eq 5, 3) := by decide +kernel
theorem dL_law_1760 : decode cL_law 1760 = .ok (.iconst 0, 1) := by decide +kernel
theorem dL_law_1761 : decode cL_law 1761 = .ok (.ireturn, 1) := by decide +kernel
theorem dL_law_1762 : decode cL_law 1762 = .ok (.goto 324, 3) := by decide +kernel
theorem dL_law_1765 : decode cL_law 1765 = .ok (.aload_n 1, 1) := by decide +kernel
theorem dL_law_1766 : decode cL_law 1766 = .ok (.aload_n 0, 1) := by decide +kernel
theorem dL_law_1767 : decode cL_law 1767 = .ok (.iload 4, 2) := by decide +kernel
theorem dL_law_1769 : decode cL_law 1769 = .ok (.iconst 1, 1) := by decide +kernel
theorem dL_law_1770 : decode cL_law 1770 = .ok (.iadd, 1) := by decide +kernel
theorem dL_law_1771 : decode cL_law 1771 = .ok (.iaload, 1) := by decide +kernel
theorem dL_law_1772 : decode cL_law 1772 = .ok (.aload_n 3, 1) := by decide +kernel
theorem dL_law_1773 : decode cL_law 1773 = .ok (.invokestatic 194, 3) := by decide +kernel
theorem dL_law_1776 : decode cL_law 1776 = .ok (.istore 5, 2) := by decide +kernel
theorem dL_law_1778 : decode cL_law 1778 = .ok (.aload_n 2, 1) := by decide +kernel
theorem dL_law_1779 : decode cL_law 1779 = .ok (.aload_n 0, 1) := by decide +kernel
theorem dL_law_1780 : decode cL_law 1780 = .ok (.iload 4, 2) := by decide +kernel
theorem dL_law_1782 : decode cL_law 1782 = .ok (.iconst 1, 1) := by decide +kernel
theorem dL_law_1783 : decode cL_law 1783 = .ok (.iadd, 1) := by decide +kernel
theorem dL_law_1784 : decode cL_law 1784 = .ok (.iaload, 1) := by decide +kernel
theorem dL_law_1785 : decode cL_law 1785 = .ok (.invokevirtual 196, 3) := by decide +kernel
theorem dL_law_1788 : decode cL_law 1788 = .ok (.istore 6, 2) := by decide +kernel
theorem dL_law_1790 : decode cL_law 1790 = .ok (.aload_n 2, 1) := by decide +kernel
theorem dL_law_1791 : decode cL_law 1791 = .ok (.invokevirtual 106, 3) := by decide +kernel
theorem dL_law_1794 : decode cL_law 1794 = .ok (.iload 5, 2) := by decide +kernel
theorem dL_law_1796 : decode cL_law 1796 = .ok (.if_icmp .eq 5, 3) := by decide +kernel
theorem dL_law_1799 : decode cL_law 1799 = .ok (.iconst 0, 1) := by decide +kernel
theorem dL_law_1800 : decode cL_law 1800 = .ok (.ireturn, 1) := by decide +kernel
theorem dL_law_1801 : decode cL_law 1801 = .ok (.iload 5, 2) := by decide +kernel
theorem dL_law_1803 : decode cL_law 1803 = .ok (.ifCond .ne 15, 3) := by decide +kernel
theorem dL_law_1806 : decode cL_law 1806 = .ok (.aload_n 3, 1) := by decide +kernel
theorem dL_law_1807 : decode cL_law 1807 = .ok (.iconst 0, 1) := by decide +kernel
theorem dL_law_1808 : decode cL_law 1808 = .ok (.laload, 1) := by decide +kernel
theorem dL_law_1809 : decode cL_law 1809 = .ok (.iload 6, 2) := by decide +kernel
theorem dL_law_1811 : decode cL_law 1811 = .ok (.i2l, 1) := by decide +kernel
theorem dL_law_1812 : decode cL_law 1812 = .ok (.lcmp, 1) := by decide +kernel
theorem dL_law_1813 : decode cL_law 1813 = .ok (.ifCond .eq 5, 3) := by decide +kernel
theorem dL_law_1816 : decode cL_law 1816 = .ok (.iconst 0, 1) := by decide +kernel
theorem dL_law_1817 : decode cL_law 1817 = .ok (.ireturn, 1) := by decide +kernel
theorem dL_law_1818 : decode cL_law 1818 = .ok (.goto 268, 3) := by decide +kernel
theorem dL_law_1821 : decode cL_law 1821 = .ok (.aload_n 1, 1) := by decide +kernel
theorem dL_law_1822 : decode cL_law 1822 = .ok (.aload_n 0, 1) := by decide +kernel
theorem dL_law_1823 : decode cL_law 1823 = .ok (.iload 4, 2) := by decide +kernel
theorem dL_law_1825 : decode cL_law 1825 = .ok (.iconst 1, 1) := by decide +kernel
theorem dL_law_1826 : decode cL_law 1826 = .ok (.iadd, 1) := by decide +kernel
theorem dL_law_1827 : decode cL_law 1827 = .ok (.iaload, 1) := by decide +kernel
theorem dL_law_1828 : decode cL_law 1828 = .ok (.aload_n 3, 1) := by decide +kernel
theorem dL_law_1829 : decode cL_law 1829 = .ok (.invokestatic 197, 3) := by decide +kernel
theorem dL_law_1832 : decode cL_law 1832 = .ok (.istore 5, 2) := by decide +kernel
theorem dL_law_1834 : decode cL_law 1834 = .ok (.aload_n 2, 1) := by decide +kernel
theorem dL_law_1835 : decode cL_law 1835 = .ok (.aload_n 0, 1) := by decide +kernel
theorem dL_law_1836 : decode cL_law 1836 = .ok (.iload 4, 2) := by decide +kernel
theorem dL_law_1838 : decode cL_law 1838 = .ok (.iconst 1, 1) := by decide +kernel
theorem dL_law_1839 : decode cL_law 1839 = .ok (.iadd, 1) := by decide +kernel
theorem dL_law_1840 : decode cL_law 1840 = .ok (.iaload, 1) := by decide +kernel
theorem dL_law_1841 : decode cL_law 1841 = .ok (.invokevirtual 199, 3) := by decide +kernel
theorem dL_law_1844 : decode cL_law 1844 = .ok (.istore 6, 2) := by decide +kernel
theorem dL_law_1846 : decode cL_law 1846 = .ok (.aload_n 2, 1) := by decide +kernel
theorem dL_law_1847 : decode cL_law 1847 = .ok (.invokevirtual 106, 3) := by decide +kernel
theorem dL_law_1850 : decode cL_law 1850 = .ok (.iload 5, 2) := by decide +kernel
theorem dL_law_1852 : decode cL_law 1852 = .ok (.if_icmp .eq 5, 3) := by decide +kernel
theorem dL_law_1855 : decode cL_law 1855 = .ok (.iconst 0, 1) := by decide +kernel
theorem dL_law_1856 : decode cL_law 1856 = .ok (.ireturn, 1) := by decide +kernel
theorem dL_law_1857 : decode cL_law 1857 = .ok (.iload 5, 2) := by decide +kernel
theorem dL_law_1859 : decode cL_law 1859 = .ok (.ifCond .ne 15, 3) := by decide +kernel
theorem dL_law_1862 : decode cL_law 1862 = .ok (.aload_n 3, 1) := by decide +kernel
theorem dL_law_1863 : decode cL_law 1863 = .ok (.iconst 0, 1) := by decide +kernel
theorem dL_law_1864 : decode cL_law 1864 = .ok (.laload, 1) := by decide +kernel
theorem dL_law_1865 : decode cL_law 1865 = .ok (.iload 6, 2) := by decide +kernel
theorem dL_law_1867 : decode cL_law 1867 = .ok (.i2l, 1) := by decide +kernel
theorem dL_law_1868 : decode cL_law 1868 = .ok (.lcmp, 1) := by decide +kernel
theorem dL_law_1869 : decode cL_law 1869 = .ok (.ifCond .eq 5, 3) := by decide +kernel
theorem dL_law_1872 : decode cL_law 1872 = .ok (.iconst 0, 1) := by decide +kernel
theorem dL_law_1873 : decode cL_law 1873 = .ok (.ireturn, 1) := by decide +kernel
theorem dL_law_1874 : decode cL_law 1874 = .ok (.goto 212, 3) := by decide +kernel
theorem dL_law_1877 : decode cL_law 1877 = .ok (.aload_n 1, 1) := by decide +kernel
theorem dL_law_1878 : decode cL_law 1878 = .ok (.invokevirtual 200, 3) := by decide +kernel
theorem dL_law_1881 : decode cL_law 1881 = .ok (.aload_n 2, 1) := by decide +kernel
theorem dL_law_1882 : decode cL_law 1882 = .ok (.invokevirtual 203, 3) := by decide +kernel
theorem dL_law_1885 : decode cL_law 1885 = .ok (.if_icmp .eq 201, 3) := by decide +kernel
theorem dL_law_1888 : decode cL_law 1888 = .ok (.iconst 0, 1) := by decide +kernel
theorem dL_law_1889 : decode cL_law 1889 = .ok (.ireturn, 1) := by decide +kernel
theorem dL_law_1890 : decode cL_law 1890 = .ok (.aload_n 1, 1) := by decide +kernel
theorem dL_law_1891 : decode cL_law 1891 = .ok (.invokevirtual 204, 3) := by decide +kernel
theorem dL_law_1894 : decode cL_law 1894 = .ok (.aload_n 2, 1) := by decide +kernel
theorem dL_law_1895 : decode cL_law 1895 = .ok (.invokevirtual 207, 3) := by decide +kernel
theorem dL_law_1898 : decode cL_law 1898 = .ok (.if_icmp .eq 188, 3) := by decide +kernel
theorem dL_law_1901 : decode cL_law 1901 = .ok (.iconst 0, 1) := by decide +kernel
theorem dL_law_1902 : decode cL_law 1902 = .ok (.ireturn, 1) := by decide +kernel
theorem dL_law_1903 : decode cL_law 1903 = .ok (.aload_n 1, 1) := by decide +kernel
theorem dL_law_1904 : decode cL_law 1904 = .ok (.aload_n 3, 1) := by decide +kernel
theorem dL_law_1905 : decode cL_law 1905 = .ok (.invokestatic 208, 3) := by decide +kernel
theorem dL_law_1908 : decode cL_law 1908 = .ok (.istore 5, 2) := by decide +kernel
theorem dL_law_1910 : decode cL_law 1910 = .ok (.aload_n 2, 1) := by decide +kernel
theorem dL_law_1911 : decode cL_law 1911 = .ok (.invokevirtual 211, 3) := by decide +kernel
theorem dL_law_1914 : decode cL_law 1914 = .ok (.istore 6, 2) := by decide +kernel
theorem dL_law_1916 : decode cL_law 1916 = .ok (.aload_n 2, 1) := by decide +kernel
theorem dL_law_1917 : decode cL_law 1917 = .ok (.invokevirtual 106, 3) := by decide +kernel
theorem dL_law_1920 : decode cL_law 1920 = .ok (.iload 5, 2) := by decide +kernel
theorem dL_law_1922 : decode cL_law 1922 = .ok (.if_icmp .eq 5, 3) := by decide +kernel
theorem dL_law_1925 : decode cL_law 1925 = .ok (.iconst 0, 1) := by decide +kernel
theorem dL_law_1926 : decode cL_law 1926 = .ok (.ireturn, 1) := by decide +kernel
theorem dL_law_1927 : decode cL_law 1927 = .ok (.iload 5, 2) := by decide +kernel
theorem dL_law_1929 : decode cL_law 1929 = .ok (.ifCond .ne 15, 3) := by decide +kernel
theorem dL_law_1932 : decode cL_law 1932 = .ok (.aload_n 3, 1) := by decide +kernel
theorem dL_law_1933 : decode cL_law 1933 = .ok (.iconst 0, 1) := by decide +kernel
theorem dL_law_1934 : decode cL_law 1934 = .ok (.laload, 1) := by decide +kernel
theorem dL_law_1935 : decode cL_law 1935 = .ok (.iload 6, 2) := by decide +kernel
theorem dL_law_1937 : decode cL_law 1937 = .ok (.i2l, 1) := by decide +kernel
theorem dL_law_1938 : decode cL_law 1938 = .ok (.lcmp, 1) := by decide +kernel
theorem dL_law_1939 : decode cL_law 1939 = .ok (.ifCond .eq 5, 3) := by decide +kernel
theorem dL_law_1942 : decode cL_law 1942 = .ok (.iconst 0, 1) := by decide +kernel
theorem dL_law_1943 : decode cL_law 1943 = .ok (.ireturn, 1) := by decide +kernel
theorem dL_law_1944 : decode cL_law 1944 = .ok (.goto 142, 3) := by decide +kernel
theorem dL_law_1947 : decode cL_law 1947 = .ok (.aload_n 1, 1) := by decide +kernel
theorem dL_law_1948 : decode cL_law 1948 = .ok (.aload_n 0, 1) := by decide +kernel
theorem dL_law_1949 : decode cL_law 1949 = .ok (.iload 4, 2) := by decide +kernel
theorem dL_law_1951 : decode cL_law 1951 = .ok (.iconst 1, 1) := by decide +kernel
theorem dL_law_1952 : decode cL_law 1952 = .ok (.iadd, 1) := by decide +kernel
theorem dL_law_1953 : decode cL_law 1953 = .ok (.iaload, 1) := by decide +kernel
theorem dL_law_1954 : decode cL_law 1954 = .ok (.aload_n 3, 1) := by decide +kernel
theorem dL_law_1955 : decode cL_law 1955 = .ok (.invokestatic 212, 3) := by decide +kernel
theorem dL_law_1958 : decode cL_law 1958 = .ok (.istore 5, 2) := by decide +kernel
theorem dL_law_1960 : decode cL_law 1960 = .ok (.aload_n 2, 1) := by decide +kernel
theorem dL_law_1961 : decode cL_law 1961 = .ok (.aload_n 0, 1) := by decide +kernel
theorem dL_law_1962 : decode cL_law 1962 = .ok (.iload 4, 2) := by decide +kernel
theorem dL_law_1964 : decode cL_law 1964 = .ok (.iconst 1, 1) := by decide +kernel
theorem dL_law_1965 : decode cL_law 1965 = .ok (.iadd, 1) := by decide +kernel
theorem dL_law_1966 : decode cL_law 1966 = .ok (.iaload, 1) := by decide +kernel
theorem dL_law_1967 : decode cL_law 1967 = .ok (.invokevirtual 214, 3) := by decide +kernel
theorem dL_law_1970 : decode cL_law 1970 = .ok (.istore 6, 2) := by decide +kernel
theorem dL_law_1972 : decode cL_law 1972 = .ok (.aload_n 2, 1) := by decide +kernel
theorem dL_law_1973 : decode cL_law 1973 = .ok (.invokevirtual 106, 3) := by decide +kernel
theorem dL_law_1976 : decode cL_law 1976 = .ok (.iload 5, 2) := by decide +kernel
theorem dL_law_1978 : decode cL_law 1978 = .ok (.if_icmp .eq 5, 3) := by decide +kernel
theorem dL_law_1981 : decode cL_law 1981 = .ok (.iconst 0, 1) := by decide +kernel
theorem dL_law_1982 : decode cL_law 1982 = .ok (.ireturn, 1) := by decide +kernel
theorem dL_law_1983 : decode cL_law 1983 = .ok (.iload 5, 2) := by decide +kernel
theorem dL_law_1985 : decode cL_law 1985 = .ok (.ifCond .ne 15, 3) := by decide +kernel
theorem dL_law_1988 : decode cL_law 1988 = .ok (.aload_n 3, 1) := by decide +kernel
theorem dL_law_1989 : decode cL_law 1989 = .ok (.iconst 0, 1) := by decide +kernel
theorem dL_law_1990 : decode cL_law 1990 = .ok (.laload, 1) := by decide +kernel
theorem dL_law_1991 : decode cL_law 1991 = .ok (.iload 6, 2) := by decide +kernel
theorem dL_law_1993 : decode cL_law 1993 = .ok (.i2l, 1) := by decide +kernel
theorem dL_law_1994 : decode cL_law 1994 = .ok (.lcmp, 1) := by decide +kernel
theorem dL_law_1995 : decode cL_law 1995 = .ok (.ifCond .eq 5, 3) := by decide +kernel
theorem dL_law_1998 : decode cL_law 1998 = .ok (.iconst 0, 1) := by decide +kernel
theorem dL_law_1999 : decode cL_law 1999 = .ok (.ireturn, 1) := by decide +kernel
theorem dL_law_2000 : decode cL_law 2000 = .ok (.goto 86, 3) := by decide +kernel
theorem dL_law_2003 : decode cL_law 2003 = .ok (.aload_n 1, 1) := by decide +kernel
theorem dL_law_2004 : decode cL_law 2004 = .ok (.aload_n 0, 1) := by decide +kernel
theorem dL_law_2005 : decode cL_law 2005 = .ok (.iload 4, 2) := by decide +kernel
theorem dL_law_2007 : decode cL_law 2007 = .ok (.iconst 1, 1) := by decide +kernel
theorem dL_law_2008 : decode cL_law 2008 = .ok (.iadd, 1) := by decide +kernel
theorem dL_law_2009 : decode cL_law 2009 = .ok (.iaload, 1) := by decide +kernel
theorem dL_law_2010 : decode cL_law 2010 = .ok (.invokevirtual 215, 3) := by decide +kernel
theorem dL_law_2013 : decode cL_law 2013 = .ok (.aload_n 2, 1) := by decide +kernel
theorem dL_law_2014 : decode cL_law 2014 = .ok (.aload_n 0, 1) := by decide +kernel
theorem dL_law_2015 : decode cL_law 2015 = .ok (.iload 4, 2) := by decide +kernel
theorem dL_law_2017 : decode cL_law 2017 = .ok (.iconst 1, 1) := by decide +kernel
theorem dL_law_2018 : decode cL_law 2018 = .ok (.iadd, 1) := by decide +kernel
theorem dL_law_2019 : decode cL_law 2019 = .ok (.iaload, 1) := by decide +kernel
theorem dL_law_2020 : decode cL_law 2020 = .ok (.invokevirtual 218, 3) := by decide +kernel
theorem dL_law_2023 : decode cL_law 2023 = .ok (.if_icmp .eq 63, 3) := by decide +kernel
theorem dL_law_2026 : decode cL_law 2026 = .ok (.iconst 0, 1) := by decide +kernel
theorem dL_law_2027 : decode cL_law 2027 = .ok (.ireturn, 1) := by decide +kernel
theorem dL_law_2028 : decode cL_law 2028 = .ok (.aload_n 1, 1) := by decide +kernel
theorem dL_law_2029 : decode cL_law 2029 = .ok (.aload_n 3, 1) := by decide +kernel
theorem dL_law_2030 : decode cL_law 2030 = .ok (.invokestatic 219, 3) := by decide +kernel
theorem dL_law_2033 : decode cL_law 2033 = .ok (.istore 5, 2) := by decide +kernel
theorem dL_law_2035 : decode cL_law 2035 = .ok (.aload_n 2, 1) := by decide +kernel
theorem dL_law_2036 : decode cL_law 2036 = .ok (.invokevirtual 221, 3) := by decide +kernel
theorem dL_law_2039 : decode cL_law 2039 = .ok (.istore 6, 2) := by decide +kernel
theorem dL_law_2041 : decode cL_law 2041 = .ok (.aload_n 2, 1) := by decide +kernel
theorem dL_law_2042 : decode cL_law 2042 = .ok (.invokevirtual 106, 3) := by decide +kernel
theorem dL_law_2045 : decode cL_law 2045 = .ok (.iload 5, 2) := by decide +kernel
theorem dL_law_2047 : decode cL_law 2047 = .ok (.if_icmp .eq 5, 3) := by decide +kernel
theorem dL_law_2050 : decode cL_law 2050 = .ok (.iconst 0, 1) := by decide +kernel
theorem dL_law_2051 : decode cL_law 2051 = .ok (.ireturn, 1) := by decide +kernel
theorem dL_law_2052 : decode cL_law 2052 = .ok (.iload 5, 2) := by decide +kernel
theorem dL_law_2054 : decode cL_law 2054 = .ok (.ifCond .ne 15, 3) := by decide +kernel
theorem dL_law_2057 : decode cL_law 2057 = .ok (.aload_n 3, 1) := by decide +kernel
theorem dL_law_2058 : decode cL_law 2058 = .ok (.iconst 0, 1) := by decide +kernel
theorem dL_law_2059 : decode cL_law 2059 = .ok (.laload, 1) := by decide +kernel
theorem dL_law_2060 : decode cL_law 2060 = .ok (.iload 6, 2) := by decide +kernel
theorem dL_law_2062 : decode cL_law 2062 = .ok (.i2l, 1) := by decide +kernel
theorem dL_law_2063 : decode cL_law 2063 = .ok (.lcmp, 1) := by decide +kernel
theorem dL_law_2064 : decode cL_law 2064 = .ok (.ifCond .eq 5, 3) := by decide +kernel
theorem dL_law_2067 : decode cL_law 2067 = .ok (.iconst 0, 1) := by decide +kernel
theorem dL_law_2068 : decode cL_law 2068 = .ok (.ireturn, 1) := by decide +kernel
theorem dL_law_2069 : decode cL_law 2069 = .ok (.goto 17, 3) := by decide +kernel
theorem dL_law_2072 : decode cL_law 2072 = .ok (.aload_n 1, 1) := by decide +kernel
theorem dL_law_2073 : decode cL_law 2073 = .ok (.invokevirtual 222, 3) := by decide +kernel
theorem dL_law_2076 : decode cL_law 2076 = .ok (.aload_n 2, 1) := by decide +kernel
theorem dL_law_2077 : decode cL_law 2077 = .ok (.invokevirtual 226, 3) := by decide +kernel
theorem dL_law_2080 : decode cL_law 2080 = .ok (.lcmp, 1) := by decide +kernel
theorem dL_law_2081 : decode cL_law 2081 = .ok (.ifCond .eq 5, 3) := by decide +kernel
theorem dL_law_2084 : decode cL_law 2084 = .ok (.iconst 0, 1) := by decide +kernel
theorem dL_law_2085 : decode cL_law 2085 = .ok (.ireturn, 1) := by decide +kernel
theorem dL_law_2086 : decode cL_law 2086 = .ok (.iinc 4 6, 3) := by decide +kernel
theorem dL_law_2089 : decode cL_law 2089 = .ok (.goto (-2066), 3) := by decide +kernel
theorem dL_law_2092 : decode cL_law 2092 = .ok (.iconst 1, 1) := by decide +kernel
theorem dL_law_2093 : decode cL_law 2093 = .ok (.ireturn, 1) := by decide +kernel
def fL_law_2086 (L : Nat) (xs : Nat → Int32) (k23 : Sg → Int32 → Option Bool) (σ : Sg) (l4 : Int32) : Option Bool :=
  (k23 σ (l4 + 6))
theorem bL_law_2086 {X : Xc} {K : Kc} {L b cs ss : Nat} {xs : Nat → Int32} (C : MC X K cL_law 7 RL room_1) (hr : LH X K b L xs) (hfl : X.l.stackTraces = false) (hcs : cs + 12 ≤ 600002 ∧ ss + 72 ≤ 7302232) {k23 : Sg → Int32 → Option Bool} (hk23 : ∀ (σ : Sg) (l4 : Int32), GO X K 7 (lawQ K) (k23 σ l4) σ (cs + 12) (ss + 72) 23 [some (.ref b), some (.ref (X.ad 0)), some (.ref (X.ad 462)), some (.ref (X.ad 476)), some (.int (l4)), none, none] []) (σ : Sg) (l4 : Int32) : GO X K 7 (lawQ K) (fL_law_2086 L xs k23 σ l4) σ (cs + 12) (ss + 72) 2086 [some (.ref b), some (.ref (X.ad 0)), some (.ref (X.ad 462)), some (.ref (X.ad 476)), some (.int (l4)), none, none] [] := by
  unfold fL_law_2086
  refine g_iinc (pc := 2086) (v := l4 + 6) C dL_law_2086 rfl (rfl) (Nat.le_of_ble_eq_true rfl) rfl ?_
  refine g_goto (pc := 2089) (tgt := 23) C dL_law_2089 rfl ?_
  refine g_keep [true, true, true, true, true, false, false] ?_
  refine g_widen (cs' := cs + 12) (ss' := ss + 72) (by omega) (by omega) ?_
  exact hk23 σ (l4 + 6)
def fL_law_2072 (L : Nat) (xs : Nat → Int32) (k23 : Sg → Int32 → Option Bool) (σ : Sg) (l4 : Int32) : Option Bool :=
  (fX8_checksumN σ).bind fun r2 =>
  (fX9_checksum σ 462).bind fun r3 =>
  if (lg_cmp r2 r3.1) = 0 then
    (fL_law_2086 L xs k23 r3.2 l4)
  else
    some false
theorem bL_law_2072 {X : Xc} {K : Kc} {L b cs ss : Nat} {xs : Nat → Int32} (C : MC X K cL_law 7 RL room_1) (hr : LH X K b L xs) (hfl : X.l.stackTraces = false) (hcs : cs + 12 ≤ 600002 ∧ ss + 72 ≤ 7302232) {k23 : Sg → Int32 → Option Bool} (hk23 : ∀ (σ : Sg) (l4 : Int32), GO X K 7 (lawQ K) (k23 σ l4) σ (cs + 12) (ss + 72) 23 [some (.ref b), some (.ref (X.ad 0)), some (.ref (X.ad 462)), some (.ref (X.ad 476)), some (.int (l4)), none, none] []) (σ : Sg) (l4 : Int32) : GO X K 7 (lawQ K) (fL_law_2072 L xs k23 σ l4) σ (cs + 0) (ss + 0) 2072 [some (.ref b), some (.ref (X.ad 0)), some (.ref (X.ad 462)), some (.ref (X.ad 476)), some (.int (l4)), none, none] [] := by
  unfold fL_law_2072
  refine g_aload_n (pc := 2072) (i := 1) C dL_law_2072 rfl rfl ?_
  refine g_callVl (pc := 2073) (As := []) C (kX8_checksumN X σ) ok_dl rfl q_58_5 q_58_6 q_58_7 q_1_2 q_58_8 ⟨rfl, hdX8_checksumN⟩ ⟨Nat.le_of_ble_eq_true rfl, Nat.le_of_ble_eq_true rfl, rfl, rfl⟩ ⟨by show _ ≤ 600002; omega, by show _ ≤ 7302232; omega⟩ (Nat.le_of_ble_eq_true rfl) rfl rfl dL_law_2073 (fun r2 _ => ?_)
  refine g_aload_n (pc := 2076) (i := 2) C dL_law_2076 rfl rfl ?_
  refine g_callVl (pc := 2077) (As := []) C (kX9_checksum X σ 462 ok_mo) (blk ok_mo 0 rfl) rfl q_59_1 q_59_2 q_59_3 q_1_5 q_59_4 ⟨rfl, hdX9_checksum⟩ ⟨Nat.le_of_ble_eq_true rfl, Nat.le_of_ble_eq_true rfl, rfl, rfl⟩ ⟨by show _ ≤ 600002; omega, by show _ ≤ 7302232; omega⟩ (Nat.le_of_ble_eq_true rfl) rfl rfl dL_law_2077 (fun r3 _ => ?_)
  refine g_lcmp (pc := 2080) C dL_law_2080 ?_
  refine g_if_eq (pc := 2081) (tgt := 2086) C dL_law_2081 rfl ?_ ?_
  · refine g_keep [true, true, true, true, true, false, false] ?_
    refine g_widen (cs' := cs + 12) (ss' := ss + 72) (by omega) (by omega) ?_
    exact bL_law_2086 C hr hfl hcs hk23 r3.2 l4
  · refine g_iconst (pc := 2084) (v := 0) C dL_law_2084 (by decide) ?_
    exact g_law_f
def fL_law_2069 (L : Nat) (xs : Nat → Int32) (k23 : Sg → Int32 → Option Bool) (σ : Sg) (l4 : Int32) : Option Bool :=
  (fL_law_2086 L xs k23 σ l4)
theorem bL_law_2069 {X : Xc} {K : Kc} {L b cs ss : Nat} {xs : Nat → Int32} (C : MC X K cL_law 7 RL room_1) (hr : LH X K b L xs) (hfl : X.l.stackTraces = false) (hcs : cs + 12 ≤ 600002 ∧ ss + 72 ≤ 7302232) {k23 : Sg → Int32 → Option Bool} (hk23 : ∀ (σ : Sg) (l4 : Int32), GO X K 7 (lawQ K) (k23 σ l4) σ (cs + 12) (ss + 72) 23 [some (.ref b), some (.ref (X.ad 0)), some (.ref (X.ad 462)), some (.ref (X.ad 476)), some (.int (l4)), none, none] []) (σ : Sg) (l4 : Int32) : GO X K 7 (lawQ K) (fL_law_2069 L xs k23 σ l4) σ (cs + 12) (ss + 72) 2069 [some (.ref b), some (.ref (X.ad 0)), some (.ref (X.ad 462)), some (.ref (X.ad 476)), some (.int (l4)), none, none] [] := by
  unfold fL_law_2069
  refine g_goto (pc := 2069) (tgt := 2086) C dL_law_2069 rfl ?_
  refine g_keep [true, true, true, true, true, false, false] ?_
  refine g_widen (cs' := cs + 12) (ss' := ss + 72) (by omega) (by omega) ?_
  exact bL_law_2086 C hr hfl hcs hk23 σ l4
def fL_law_2028 (L : Nat) (xs : Nat → Int32) (k23 : Sg → Int32 → Option Bool) (σ : Sg) (l4 : Int32) : Option Bool :=
  (fL_undo σ 476 1).bind fun r4 =>
  (fX9_undo r4.2 462).bind fun r5 =>
  (fX9_thrown r5.2 462).bind fun r6 =>
  if r6 = r4.1 then
    if r4.1 = 0 then
      if ck 0 1 then
        if (lg_cmp (r5.2.2 476 (0 : Int32).toNatClampNeg) r5.1.toInt64) = 0 then
          (fL_law_2069 L xs k23 r5.2 l4)
        else
          some false
      else none
    else
      (fL_law_2069 L xs k23 r5.2 l4)
  else
    some false
theorem bL_law_2028 {X : Xc} {K : Kc} {L b cs ss : Nat} {xs : Nat → Int32} (C : MC X K cL_law 7 RL room_1) (hr : LH X K b L xs) (hfl : X.l.stackTraces = false) (hcs : cs + 12 ≤ 600002 ∧ ss + 72 ≤ 7302232) {k23 : Sg → Int32 → Option Bool} (hk23 : ∀ (σ : Sg) (l4 : Int32), GO X K 7 (lawQ K) (k23 σ l4) σ (cs + 12) (ss + 72) 23 [some (.ref b), some (.ref (X.ad 0)), some (.ref (X.ad 462)), some (.ref (X.ad 476)), some (.int (l4)), none, none] []) (σ : Sg) (l4 : Int32) : GO X K 7 (lawQ K) (fL_law_2028 L xs k23 σ l4) σ (cs + 0) (ss + 0) 2028 [some (.ref b), some (.ref (X.ad 0)), some (.ref (X.ad 462)), some (.ref (X.ad 476)), some (.int (l4)), none, none] [] := by
  unfold fL_law_2028
  refine g_aload_n (pc := 2028) (i := 1) C dL_law_2028 rfl rfl ?_
  refine g_aload_n (pc := 2029) (i := 3) C dL_law_2029 rfl rfl ?_
  refine g_callHi (pc := 2030) (As := [.ref (X.ad 0), .ref (X.ad 476)]) C (kL_undo X σ 476 1 ok_out hfl) q_57_18 q_57_19 q_6_18 q_57_20 hdL_undo ⟨Nat.le_of_ble_eq_true rfl, Nat.le_of_ble_eq_true rfl, rfl, rfl, by show _ ≤ 600002; omega, by show _ ≤ 7302232; omega⟩ (Nat.le_of_ble_eq_true rfl) rfl rfl dL_law_2030 (fun r4 _ => ?_)
  refine g_istore (pc := 2033) C dL_law_2033 (Nat.le_of_ble_eq_true rfl) rfl ?_
  refine g_aload_n (pc := 2035) (i := 2) C dL_law_2035 rfl rfl ?_
  refine g_callVi (pc := 2036) (As := []) C (kX9_undo X r4.2 462 ok_mo) (blk ok_mo 0 rfl) rfl q_58_1 q_58_2 q_58_3 q_1_5 q_58_4 ⟨rfl, hdX9_undo⟩ ⟨Nat.le_of_ble_eq_true rfl, Nat.le_of_ble_eq_true rfl, rfl, rfl⟩ ⟨by show _ ≤ 600002; omega, by show _ ≤ 7302232; omega⟩ (Nat.le_of_ble_eq_true rfl) rfl rfl dL_law_2036 (fun r5 _ => ?_)
  refine g_istore (pc := 2039) C dL_law_2039 (Nat.le_of_ble_eq_true rfl) rfl ?_
  refine g_aload_n (pc := 2041) (i := 2) C dL_law_2041 rfl rfl ?_
  refine g_callVi (pc := 2042) (As := []) C (kX9_thrown X r5.2 462 ok_mo) (blk ok_mo 0 rfl) rfl q_10_23 q_11_0 q_11_1 q_1_5 q_11_2 ⟨rfl, hdX9_thrown⟩ ⟨Nat.le_of_ble_eq_true rfl, Nat.le_of_ble_eq_true rfl, rfl, rfl⟩ ⟨by show _ ≤ 600002; omega, by show _ ≤ 7302232; omega⟩ (Nat.le_of_ble_eq_true rfl) rfl rfl dL_law_2042 (fun r6 _ => ?_)
  refine g_iload (pc := 2045) C dL_law_2045 rfl ?_
  refine g_icmp_eq (pc := 2047) (tgt := 2052) C dL_law_2047 rfl ?_ ?_
  · refine g_iload (pc := 2052) C dL_law_2052 rfl ?_
    refine g_if_ne (pc := 2054) (tgt := 2069) C dL_law_2054 rfl ?_ ?_
    · refine g_aload_n (pc := 2057) (i := 3) C dL_law_2057 rfl rfl ?_
      refine g_iconst (pc := 2058) (v := 0) C dL_law_2058 (by decide) ?_
      refine g_laload (pc := 2059) C ok_out dL_law_2059 ?_
      refine g_iload (pc := 2060) C dL_law_2060 rfl ?_
      refine g_i2l (pc := 2062) C dL_law_2062 ?_
      refine g_lcmp (pc := 2063) C dL_law_2063 ?_
      refine g_if_eq (pc := 2064) (tgt := 2069) C dL_law_2064 rfl ?_ ?_
      · refine g_keep [true, true, true, true, true, false, false] ?_
        refine g_widen (cs' := cs + 12) (ss' := ss + 72) (by omega) (by omega) ?_
        exact bL_law_2069 C hr hfl hcs hk23 r5.2 l4
      · refine g_iconst (pc := 2067) (v := 0) C dL_law_2067 (by decide) ?_
        exact g_law_f
    · refine g_keep [true, true, true, true, true, false, false] ?_
      refine g_widen (cs' := cs + 12) (ss' := ss + 72) (by omega) (by omega) ?_
      exact bL_law_2069 C hr hfl hcs hk23 r5.2 l4
  · refine g_iconst (pc := 2050) (v := 0) C dL_law_2050 (by decide) ?_
    exact g_law_f
def fL_law_2003 (L : Nat) (xs : Nat → Int32) (k23 : Sg → Int32 → Option Bool) (σ : Sg) (l4 : Int32) : Option Bool :=
  if ck (l4 + 1) L then
    (fX8_character σ (xs (l4 + 1).toNatClampNeg)).bind fun r7 =>
    if ck (l4 + 1) L then
      (fX9_character σ 462 (xs (l4 + 1).toNatClampNeg)).bind fun r8 =>
      if r7 = r8.1 then
        (fL_law_2086 L xs k23 r8.2 l4)
      else
        some false
    else none
  else none
theorem bL_law_2003 {X : Xc} {K : Kc} {L b cs ss : Nat} {xs : Nat → Int32} (C : MC X K cL_law 7 RL room_1) (hr : LH X K b L xs) (hfl : X.l.stackTraces = false) (hcs : cs + 12 ≤ 600002 ∧ ss + 72 ≤ 7302232) {k23 : Sg → Int32 → Option Bool} (hk23 : ∀ (σ : Sg) (l4 : Int32), GO X K 7 (lawQ K) (k23 σ l4) σ (cs + 12) (ss + 72) 23 [some (.ref b), some (.ref (X.ad 0)), some (.ref (X.ad 462)), some (.ref (X.ad 476)), some (.int (l4)), none, none] []) (σ : Sg) (l4 : Int32) : GO X K 7 (lawQ K) (fL_law_2003 L xs k23 σ l4) σ (cs + 0) (ss + 0) 2003 [some (.ref b), some (.ref (X.ad 0)), some (.ref (X.ad 462)), some (.ref (X.ad 476)), some (.int (l4)), none, none] [] := by
  unfold fL_law_2003
  refine g_aload_n (pc := 2003) (i := 1) C dL_law_2003 rfl rfl ?_
  refine g_aload_n (pc := 2004) (i := 0) C dL_law_2004 rfl rfl ?_
  refine g_iload (pc := 2005) C dL_law_2005 rfl ?_
  refine g_iconst (pc := 2007) (v := 1) C dL_law_2007 (by decide) ?_
  refine g_iadd (pc := 2008) C dL_law_2008 ?_
  refine g_sld (pc := 2009) C hr dL_law_2009 ?_
  refine g_callVi (pc := 2010) (As := [.int (xs (l4 + 1).toNatClampNeg)]) C (kX8_character X σ (xs (l4 + 1).toNatClampNeg)) ok_dl rfl q_57_9 q_57_10 q_57_11 q_1_2 q_57_12 ⟨rfl, hdX8_character⟩ ⟨Nat.le_of_ble_eq_true rfl, Nat.le_of_ble_eq_true rfl, rfl, rfl⟩ ⟨by show _ ≤ 600002; omega, by show _ ≤ 7302232; omega⟩ (Nat.le_of_ble_eq_true rfl) rfl rfl dL_law_2010 (fun r7 _ => ?_)
  refine g_aload_n (pc := 2013) (i := 2) C dL_law_2013 rfl rfl ?_
  refine g_aload_n (pc := 2014) (i := 0) C dL_law_2014 rfl rfl ?_
  refine g_iload (pc := 2015) C dL_law_2015 rfl ?_
  refine g_iconst (pc := 2017) (v := 1) C dL_law_2017 (by decide) ?_
  refine g_iadd (pc := 2018) C dL_law_2018 ?_
  refine g_sld (pc := 2019) C hr dL_law_2019 ?_
  refine g_callVi (pc := 2020) (As := [.int (xs (l4 + 1).toNatClampNeg)]) C (kX9_character X σ 462 (xs (l4 + 1).toNatClampNeg) ok_mo) (blk ok_mo 0 rfl) rfl q_57_14 q_57_15 q_57_16 q_1_5 q_57_17 ⟨rfl, hdX9_character⟩ ⟨Nat.le_of_ble_eq_true rfl, Nat.le_of_ble_eq_true rfl, rfl, rfl⟩ ⟨by show _ ≤ 600002; omega, by show _ ≤ 7302232; omega⟩ (Nat.le_of_ble_eq_true rfl) rfl rfl dL_law_2020 (fun r8 _ => ?_)
  refine g_icmp_eq (pc := 2023) (tgt := 2086) C dL_law_2023 rfl ?_ ?_
  · refine g_keep [true, true, true, true, true, false, false] ?_
    refine g_widen (cs' := cs + 12) (ss' := ss + 72) (by omega) (by omega) ?_
    exact bL_law_2086 C hr hfl hcs hk23 r8.2 l4
  · refine g_iconst (pc := 2026) (v := 0) C dL_law_2026 (by decide) ?_
    exact g_law_f
def fL_law_2000 (L : Nat) (xs : Nat → Int32) (k23 : Sg → Int32 → Option Bool) (σ : Sg) (l4 : Int32) : Option Bool :=
  (fL_law_2086 L xs k23 σ l4)
theorem bL_law_2000 {X : Xc} {K : Kc} {L b cs ss : Nat} {xs : Nat → Int32} (C : MC X K cL_law 7 RL room_1) (hr : LH X K b L xs) (hfl : X.l.stackTraces = false) (hcs : cs + 12 ≤ 600002 ∧ ss + 72 ≤ 7302232) {k23 : Sg → Int32 → Option Bool} (hk23 : ∀ (σ : Sg) (l4 : Int32), GO X K 7 (lawQ K) (k23 σ l4) σ (cs + 12) (ss + 72) 23 [some (.ref b), some (.ref (X.ad 0)), some (.ref (X.ad 462)), some (.ref (X.ad 476)), some (.int (l4)), none, none] []) (σ : Sg) (l4 : Int32) : GO X K 7 (lawQ K) (fL_law_2000 L xs k23 σ l4) σ (cs + 12) (ss + 72) 2000 [some (.ref b), some (.ref (X.ad 0)), some (.ref (X.ad 462)), some (.ref (X.ad 476)), some (.int (l4)), none, none] [] := by
  unfold fL_law_2000
  refine g_goto (pc := 2000) (tgt := 2086) C dL_law_2000 rfl ?_
  refine g_keep [true, true, true, true, true, false, false] ?_
  refine g_widen (cs' := cs + 12) (ss' := ss + 72) (by omega) (by omega) ?_
  exact bL_law_2086 C hr hfl hcs hk23 σ l4
def fL_law_1947 (L : Nat) (xs : Nat → Int32) (k23 : Sg → Int32 → Option Bool) (σ : Sg) (l4 : Int32) : Option Bool :=
  if ck (l4 + 1) L then
    (fL_write σ (xs (l4 + 1).toNatClampNeg) 476 1).bind fun r9 =>
    if ck (l4 + 1) L then
      (fX9_write r9.2 462 (xs (l4 + 1).toNatClampNeg)).bind fun r10 =>
      (fX9_thrown r10.2 462).bind fun r11 =>
      if r11 = r9.1 then
        if r9.1 = 0 then
          if ck 0 1 then
            if (lg_cmp (r10.2.2 476 (0 : Int32).toNatClampNeg) r10.1.toInt64) = 0 then
              (fL_law_2000 L xs k23 r10.2 l4)
            else
              some false
          else none
        else
          (fL_law_2000 L xs k23 r10.2 l4)
      else
        some false
    else none
  else none
theorem bL_law_1947 {X : Xc} {K : Kc} {L b cs ss : Nat} {xs : Nat → Int32} (C : MC X K cL_law 7 RL room_1) (hr : LH X K b L xs) (hfl : X.l.stackTraces = false) (hcs : cs + 12 ≤ 600002 ∧ ss + 72 ≤ 7302232) {k23 : Sg → Int32 → Option Bool} (hk23 : ∀ (σ : Sg) (l4 : Int32), GO X K 7 (lawQ K) (k23 σ l4) σ (cs + 12) (ss + 72) 23 [some (.ref b), some (.ref (X.ad 0)), some (.ref (X.ad 462)), some (.ref (X.ad 476)), some (.int (l4)), none, none] []) (σ : Sg) (l4 : Int32) : GO X K 7 (lawQ K) (fL_law_1947 L xs k23 σ l4) σ (cs + 0) (ss + 0) 1947 [some (.ref b), some (.ref (X.ad 0)), some (.ref (X.ad 462)), some (.ref (X.ad 476)), some (.int (l4)), none, none] [] := by
  unfold fL_law_1947
  refine g_aload_n (pc := 1947) (i := 1) C dL_law_1947 rfl rfl ?_
  refine g_aload_n (pc := 1948) (i := 0) C dL_law_1948 rfl rfl ?_
  refine g_iload (pc := 1949) C dL_law_1949 rfl ?_
  refine g_iconst (pc := 1951) (v := 1) C dL_law_1951 (by decide) ?_
  refine g_iadd (pc := 1952) C dL_law_1952 ?_
  refine g_sld (pc := 1953) C hr dL_law_1953 ?_
  refine g_aload_n (pc := 1954) (i := 3) C dL_law_1954 rfl rfl ?_
  refine g_callHi (pc := 1955) (As := [.ref (X.ad 0), .int (xs (l4 + 1).toNatClampNeg), .ref (X.ad 476)]) C (kL_write X σ (xs (l4 + 1).toNatClampNeg) 476 1 ok_out hfl) q_55_0 q_55_1 q_6_18 q_55_2 hdL_write ⟨Nat.le_of_ble_eq_true rfl, Nat.le_of_ble_eq_true rfl, rfl, rfl, by show _ ≤ 600002; omega, by show _ ≤ 7302232; omega⟩ (Nat.le_of_ble_eq_true rfl) rfl rfl dL_law_1955 (fun r9 _ => ?_)
  refine g_istore (pc := 1958) C dL_law_1958 (Nat.le_of_ble_eq_true rfl) rfl ?_
  refine g_aload_n (pc := 1960) (i := 2) C dL_law_1960 rfl rfl ?_
  refine g_aload_n (pc := 1961) (i := 0) C dL_law_1961 rfl rfl ?_
  refine g_iload (pc := 1962) C dL_law_1962 rfl ?_
  refine g_iconst (pc := 1964) (v := 1) C dL_law_1964 (by decide) ?_
  refine g_iadd (pc := 1965) C dL_law_1965 ?_
  refine g_sld (pc := 1966) C hr dL_law_1966 ?_
  refine g_callVi (pc := 1967) (As := [.int (xs (l4 + 1).toNatClampNeg)]) C (kX9_write X r9.2 462 (xs (l4 + 1).toNatClampNeg) ok_mo) (blk ok_mo 0 rfl) rfl q_56_12 q_56_13 q_56_14 q_1_5 q_56_15 ⟨rfl, hdX9_write⟩ ⟨Nat.le_of_ble_eq_true rfl, Nat.le_of_ble_eq_true rfl, rfl, rfl⟩ ⟨by show _ ≤ 600002; omega, by show _ ≤ 7302232; omega⟩ (Nat.le_of_ble_eq_true rfl) rfl rfl dL_law_1967 (fun r10 _ => ?_)
  refine g_istore (pc := 1970) C dL_law_1970 (Nat.le_of_ble_eq_true rfl) rfl ?_
  refine g_aload_n (pc := 1972) (i := 2) C dL_law_1972 rfl rfl ?_
  refine g_callVi (pc := 1973) (As := []) C (kX9_thrown X r10.2 462 ok_mo) (blk ok_mo 0 rfl) rfl q_10_23 q_11_0 q_11_1 q_1_5 q_11_2 ⟨rfl, hdX9_thrown⟩ ⟨Nat.le_of_ble_eq_true rfl, Nat.le_of_ble_eq_true rfl, rfl, rfl⟩ ⟨by show _ ≤ 600002; omega, by show _ ≤ 7302232; omega⟩ (Nat.le_of_ble_eq_true rfl) rfl rfl dL_law_1973 (fun r11 _ => ?_)
  refine g_iload (pc := 1976) C dL_law_1976 rfl ?_
  refine g_icmp_eq (pc := 1978) (tgt := 1983) C dL_law_1978 rfl ?_ ?_
  · refine g_iload (pc := 1983) C dL_law_1983 rfl ?_
    refine g_if_ne (pc := 1985) (tgt := 2000) C dL_law_1985 rfl ?_ ?_
    · refine g_aload_n (pc := 1988) (i := 3) C dL_law_1988 rfl rfl ?_
      refine g_iconst (pc := 1989) (v := 0) C dL_law_1989 (by decide) ?_
      refine g_laload (pc := 1990) C ok_out dL_law_1990 ?_
      refine g_iload (pc := 1991) C dL_law_1991 rfl ?_
      refine g_i2l (pc := 1993) C dL_law_1993 ?_
      refine g_lcmp (pc := 1994) C dL_law_1994 ?_
      refine g_if_eq (pc := 1995) (tgt := 2000) C dL_law_1995 rfl ?_ ?_
      · refine g_keep [true, true, true, true, true, false, false] ?_
        refine g_widen (cs' := cs + 12) (ss' := ss + 72) (by omega) (by omega) ?_
        exact bL_law_2000 C hr hfl hcs hk23 r10.2 l4
      · refine g_iconst (pc := 1998) (v := 0) C dL_law_1998 (by decide) ?_
        exact g_law_f
    · refine g_keep [true, true, true, true, true, false, false] ?_
      refine g_widen (cs' := cs + 12) (ss' := ss + 72) (by omega) (by omega) ?_
      exact bL_law_2000 C hr hfl hcs hk23 r10.2 l4
  · refine g_iconst (pc := 1981) (v := 0) C dL_law_1981 (by decide) ?_
    exact g_law_f
def fL_law_1944 (L : Nat) (xs : Nat → Int32) (k23 : Sg → Int32 → Option Bool) (σ : Sg) (l4 : Int32) : Option Bool :=
  (fL_law_2086 L xs k23 σ l4)
theorem bL_law_1944 {X : Xc} {K : Kc} {L b cs ss : Nat} {xs : Nat → Int32} (C : MC X K cL_law 7 RL room_1) (hr : LH X K b L xs) (hfl : X.l.stackTraces = false) (hcs : cs + 12 ≤ 600002 ∧ ss + 72 ≤ 7302232) {k23 : Sg → Int32 → Option Bool} (hk23 : ∀ (σ : Sg) (l4 : Int32), GO X K 7 (lawQ K) (k23 σ l4) σ (cs + 12) (ss + 72) 23 [some (.ref b), some (.ref (X.ad 0)), some (.ref (X.ad 462)), some (.ref (X.ad 476)), some (.int (l4)), none, none] []) (σ : Sg) (l4 : Int32) : GO X K 7 (lawQ K) (fL_law_1944 L xs k23 σ l4) σ (cs + 12) (ss + 72) 1944 [some (.ref b), some (.ref (X.ad 0)), some (.ref (X.ad 462)), some (.ref (X.ad 476)), some (.int (l4)), none, none] [] := by
  unfold fL_law_1944
  refine g_goto (pc := 1944) (tgt := 2086) C dL_law_1944 rfl ?_
  refine g_keep [true, true, true, true, true, false, false] ?_
  refine g_widen (cs' := cs + 12) (ss' := ss + 72) (by omega) (by omega) ?_
  exact bL_law_2086 C hr hfl hcs hk23 σ l4
def fL_law_1903 (L : Nat) (xs : Nat → Int32) (k23 : Sg → Int32 → Option Bool) (σ : Sg) (l4 : Int32) : Option Bool :=
  (fL_read σ 476 1).bind fun r12 =>
  (fX9_read r12.2 462).bind fun r13 =>
  (fX9_thrown r13.2 462).bind fun r14 =>
  if r14 = r12.1 then
    if r12.1 = 0 then
      if ck 0 1 then
        if (lg_cmp (r13.2.2 476 (0 : Int32).toNatClampNeg) r13.1.toInt64) = 0 then
          (fL_law_1944 L xs k23 r13.2 l4)
        else
          some false
      else none
    else
      (fL_law_1944 L xs k23 r13.2 l4)
  else
    some false
theorem bL_law_1903 {X : Xc} {K : Kc} {L b cs ss : Nat} {xs : Nat → Int32} (C : MC X K cL_law 7 RL room_1) (hr : LH X K b L xs) (hfl : X.l.stackTraces = false) (hcs : cs + 12 ≤ 600002 ∧ ss + 72 ≤ 7302232) {k23 : Sg → Int32 → Option Bool} (hk23 : ∀ (σ : Sg) (l4 : Int32), GO X K 7 (lawQ K) (k23 σ l4) σ (cs + 12) (ss + 72) 23 [some (.ref b), some (.ref (X.ad 0)), some (.ref (X.ad 462)), some (.ref (X.ad 476)), some (.int (l4)), none, none] []) (σ : Sg) (l4 : Int32) : GO X K 7 (lawQ K) (fL_law_1903 L xs k23 σ l4) σ (cs + 0) (ss + 0) 1903 [some (.ref b), some (.ref (X.ad 0)), some (.ref (X.ad 462)), some (.ref (X.ad 476)), some (.int (l4)), none, none] [] := by
  unfold fL_law_1903
  refine g_aload_n (pc := 1903) (i := 1) C dL_law_1903 rfl rfl ?_
  refine g_aload_n (pc := 1904) (i := 3) C dL_law_1904 rfl rfl ?_
  refine g_callHi (pc := 1905) (As := [.ref (X.ad 0), .ref (X.ad 476)]) C (kL_read X σ 476 1 ok_out hfl) q_54_11 q_54_12 q_6_18 q_54_13 hdL_read ⟨Nat.le_of_ble_eq_true rfl, Nat.le_of_ble_eq_true rfl, rfl, rfl, by show _ ≤ 600002; omega, by show _ ≤ 7302232; omega⟩ (Nat.le_of_ble_eq_true rfl) rfl rfl dL_law_1905 (fun r12 _ => ?_)
  refine g_istore (pc := 1908) C dL_law_1908 (Nat.le_of_ble_eq_true rfl) rfl ?_
  refine g_aload_n (pc := 1910) (i := 2) C dL_law_1910 rfl rfl ?_
  refine g_callVi (pc := 1911) (As := []) C (kX9_read X r12.2 462 ok_mo) (blk ok_mo 0 rfl) rfl q_54_20 q_54_21 q_54_22 q_1_5 q_54_23 ⟨rfl, hdX9_read⟩ ⟨Nat.le_of_ble_eq_true rfl, Nat.le_of_ble_eq_true rfl, rfl, rfl⟩ ⟨by show _ ≤ 600002; omega, by show _ ≤ 7302232; omega⟩ (Nat.le_of_ble_eq_true rfl) rfl rfl dL_law_1911 (fun r13 _ => ?_)
  refine g_istore (pc := 1914) C dL_law_1914 (Nat.le_of_ble_eq_true rfl) rfl ?_
  refine g_aload_n (pc := 1916) (i := 2) C dL_law_1916 rfl rfl ?_
  refine g_callVi (pc := 1917) (As := []) C (kX9_thrown X r13.2 462 ok_mo) (blk ok_mo 0 rfl) rfl q_10_23 q_11_0 q_11_1 q_1_5 q_11_2 ⟨rfl, hdX9_thrown⟩ ⟨Nat.le_of_ble_eq_true rfl, Nat.le_of_ble_eq_true rfl, rfl, rfl⟩ ⟨by show _ ≤ 600002; omega, by show _ ≤ 7302232; omega⟩ (Nat.le_of_ble_eq_true rfl) rfl rfl dL_law_1917 (fun r14 _ => ?_)
  refine g_iload (pc := 1920) C dL_law_1920 rfl ?_
  refine g_icmp_eq (pc := 1922) (tgt := 1927) C dL_law_1922 rfl ?_ ?_
  · refine g_iload (pc := 1927) C dL_law_1927 rfl ?_
    refine g_if_ne (pc := 1929) (tgt := 1944) C dL_law_1929 rfl ?_ ?_
    · refine g_aload_n (pc := 1932) (i := 3) C dL_law_1932 rfl rfl ?_
      refine g_iconst (pc := 1933) (v := 0) C dL_law_1933 (by decide) ?_
      refine g_laload (pc := 1934) C ok_out dL_law_1934 ?_
      refine g_iload (pc := 1935) C dL_law_1935 rfl ?_
      refine g_i2l (pc := 1937) C dL_law_1937 ?_
      refine g_lcmp (pc := 1938) C dL_law_1938 ?_
      refine g_if_eq (pc := 1939) (tgt := 1944) C dL_law_1939 rfl ?_ ?_
      · refine g_keep [true, true, true, true, true, false, false] ?_
        refine g_widen (cs' := cs + 12) (ss' := ss + 72) (by omega) (by omega) ?_
        exact bL_law_1944 C hr hfl hcs hk23 r13.2 l4
      · refine g_iconst (pc := 1942) (v := 0) C dL_law_1942 (by decide) ?_
        exact g_law_f
    · refine g_keep [true, true, true, true, true, false, false] ?_
      refine g_widen (cs' := cs + 12) (ss' := ss + 72) (by omega) (by omega) ?_
      exact bL_law_1944 C hr hfl hcs hk23 r13.2 l4
  · refine g_iconst (pc := 1925) (v := 0) C dL_law_1925 (by decide) ?_
    exact g_law_f
def fL_law_1890 (L : Nat) (xs : Nat → Int32) (k23 : Sg → Int32 → Option Bool) (σ : Sg) (l4 : Int32) : Option Bool :=
  (fX8_fault σ).bind fun r15 =>
  (fX9_fault r15.2 462).bind fun r16 =>
  if r15.1 = r16.1 then
    (fL_law_2086 L xs k23 r16.2 l4)
  else
    some false
theorem bL_law_1890 {X : Xc} {K : Kc} {L b cs ss : Nat} {xs : Nat → Int32} (C : MC X K cL_law 7 RL room_1) (hr : LH X K b L xs) (hfl : X.l.stackTraces = false) (hcs : cs + 12 ≤ 600002 ∧ ss + 72 ≤ 7302232) {k23 : Sg → Int32 → Option Bool} (hk23 : ∀ (σ : Sg) (l4 : Int32), GO X K 7 (lawQ K) (k23 σ l4) σ (cs + 12) (ss + 72) 23 [some (.ref b), some (.ref (X.ad 0)), some (.ref (X.ad 462)), some (.ref (X.ad 476)), some (.int (l4)), none, none] []) (σ : Sg) (l4 : Int32) : GO X K 7 (lawQ K) (fL_law_1890 L xs k23 σ l4) σ (cs + 0) (ss + 0) 1890 [some (.ref b), some (.ref (X.ad 0)), some (.ref (X.ad 462)), some (.ref (X.ad 476)), some (.int (l4)), none, none] [] := by
  unfold fL_law_1890
  refine g_aload_n (pc := 1890) (i := 1) C dL_law_1890 rfl rfl ?_
  refine g_callVi (pc := 1891) (As := []) C (kX8_fault X σ) ok_dl rfl q_50_5 q_50_6 q_50_7 q_1_2 q_50_8 ⟨rfl, hdX8_fault⟩ ⟨Nat.le_of_ble_eq_true rfl, Nat.le_of_ble_eq_true rfl, rfl, rfl⟩ ⟨by show _ ≤ 600002; omega, by show _ ≤ 7302232; omega⟩ (Nat.le_of_ble_eq_true rfl) rfl rfl dL_law_1891 (fun r15 _ => ?_)
  refine g_aload_n (pc := 1894) (i := 2) C dL_law_1894 rfl rfl ?_
  refine g_callVi (pc := 1895) (As := []) C (kX9_fault X r15.2 462 ok_mo) (blk ok_mo 0 rfl) rfl q_52_13 q_52_14 q_52_15 q_1_5 q_52_16 ⟨rfl, hdX9_fault⟩ ⟨Nat.le_of_ble_eq_true rfl, Nat.le_of_ble_eq_true rfl, rfl, rfl⟩ ⟨by show _ ≤ 600002; omega, by show _ ≤ 7302232; omega⟩ (Nat.le_of_ble_eq_true rfl) rfl rfl dL_law_1895 (fun r16 _ => ?_)
  refine g_icmp_eq (pc := 1898) (tgt := 2086) C dL_law_1898 rfl ?_ ?_
  · refine g_keep [true, true, true, true, true, false, false] ?_
    refine g_widen (cs' := cs + 12) (ss' := ss + 72) (by omega) (by omega) ?_
    exact bL_law_2086 C hr hfl hcs hk23 r16.2 l4
  · refine g_iconst (pc := 1901) (v := 0) C dL_law_1901 (by decide) ?_
    exact g_law_f
def fL_law_1877 (L : Nat) (xs : Nat → Int32) (k23 : Sg → Int32 → Option Bool) (σ : Sg) (l4 : Int32) : Option Bool :=
  (fX8_clearText σ).bind fun r17 =>
  (fX9_clearText r17.2 462).bind fun r18 =>
  if r17.1 = r18.1 then
    (fL_law_2086 L xs k23 r18.2 l4)
  else
    some false
theorem bL_law_1877 {X : Xc} {K : Kc} {L b cs ss : Nat} {xs : Nat → Int32} (C : MC X K cL_law 7 RL room_1) (hr : LH X K b L xs) (hfl : X.l.stackTraces = false) (hcs : cs + 12 ≤ 600002 ∧ ss + 72 ≤ 7302232) {k23 : Sg → Int32 → Option Bool} (hk23 : ∀ (σ : Sg) (l4 : Int32), GO X K 7 (lawQ K) (k23 σ l4) σ (cs + 12) (ss + 72) 23 [some (.ref b), some (.ref (X.ad 0)), some (.ref (X.ad 462)), some (.ref (X.ad 476)), some (.int (l4)), none, none] []) (σ : Sg) (l4 : Int32) : GO X K 7 (lawQ K) (fL_law_1877 L xs k23 σ l4) σ (cs + 0) (ss + 0) 1877 [some (.ref b), some (.ref (X.ad 0)), some (.ref (X.ad 462)), some (.ref (X.ad 476)), some (.int (l4)), none, none] [] := by
  unfold fL_law_1877
  refine g_aload_n (pc := 1877) (i := 1) C dL_law_1877 rfl rfl ?_
  refine g_callVi (pc := 1878) (As := []) C (kX8_clearText X σ) ok_dl rfl q_49_17 q_49_18 q_49_19 q_1_2 q_49_20 ⟨rfl, hdX8_clearText⟩ ⟨Nat.le_of_ble_eq_true rfl, Nat.le_of_ble_eq_true rfl, rfl, rfl⟩ ⟨by show _ ≤ 600002; omega, by show _ ≤ 7302232; omega⟩ (Nat.le_of_ble_eq_true rfl) rfl rfl dL_law_1878 (fun r17 _ => ?_)
  refine g_aload_n (pc := 1881) (i := 2) C dL_law_1881 rfl rfl ?_
  refine g_callVi (pc := 1882) (As := []) C (kX9_clearText X r17.2 462 ok_mo) (blk ok_mo 0 rfl) rfl q_50_1 q_50_2 q_50_3 q_1_5 q_50_4 ⟨rfl, hdX9_clearText⟩ ⟨Nat.le_of_ble_eq_true rfl, Nat.le_of_ble_eq_true rfl, rfl, rfl⟩ ⟨by show _ ≤ 600002; omega, by show _ ≤ 7302232; omega⟩ (Nat.le_of_ble_eq_true rfl) rfl rfl dL_law_1882 (fun r18 _ => ?_)
  refine g_icmp_eq (pc := 1885) (tgt := 2086) C dL_law_1885 rfl ?_ ?_
  · refine g_keep [true, true, true, true, true, false, false] ?_
    refine g_widen (cs' := cs + 12) (ss' := ss + 72) (by omega) (by omega) ?_
    exact bL_law_2086 C hr hfl hcs hk23 r18.2 l4
  · refine g_iconst (pc := 1888) (v := 0) C dL_law_1888 (by decide) ?_
    exact g_law_f
def fL_law_1874 (L : Nat) (xs : Nat → Int32) (k23 : Sg → Int32 → Option Bool) (σ : Sg) (l4 : Int32) : Option Bool :=
  (fL_law_2086 L xs k23 σ l4)
theorem bL_law_1874 {X : Xc} {K : Kc} {L b cs ss : Nat} {xs : Nat → Int32} (C : MC X K cL_law 7 RL room_1) (hr : LH X K b L xs) (hfl : X.l.stackTraces = false) (hcs : cs + 12 ≤ 600002 ∧ ss + 72 ≤ 7302232) {k23 : Sg → Int32 → Option Bool} (hk23 : ∀ (σ : Sg) (l4 : Int32), GO X K 7 (lawQ K) (k23 σ l4) σ (cs + 12) (ss + 72) 23 [some (.ref b), some (.ref (X.ad 0)), some (.ref (X.ad 462)), some (.ref (X.ad 476)), some (.int (l4)), none, none] []) (σ : Sg) (l4 : Int32) : GO X K 7 (lawQ K) (fL_law_1874 L xs k23 σ l4) σ (cs + 12) (ss + 72) 1874 [some (.ref b), some (.ref (X.ad 0)), some (.ref (X.ad 462)), some (.ref (X.ad 476)), some (.int (l4)), none, none] [] := by
  unfold fL_law_1874
  refine g_goto (pc := 1874) (tgt := 2086) C dL_law_1874 rfl ?_
  refine g_keep [true, true, true, true, true, false, false] ?_
  refine g_widen (cs' := cs + 12) (ss' := ss + 72) (by omega) (by omega) ?_
  exact bL_law_2086 C hr hfl hcs hk23 σ l4
def fL_law_1821 (L : Nat) (xs : Nat → Int32) (k23 : Sg → Int32 → Option Bool) (σ : Sg) (l4 : Int32) : Option Bool :=
  if ck (l4 + 1) L then
    (fL_type σ (xs (l4 + 1).toNatClampNeg) 476 1).bind fun r19 =>
    if ck (l4 + 1) L then
      (fX9_type r19.2 462 (xs (l4 + 1).toNatClampNeg)).bind fun r20 =>
      (fX9_thrown r20.2 462).bind fun r21 =>
      if r21 = r19.1 then
        if r19.1 = 0 then
          if ck 0 1 then
            if (lg_cmp (r20.2.2 476 (0 : Int32).toNatClampNeg) r20.1.toInt64) = 0 then
              (fL_law_1874 L xs k23 r20.2 l4)
            else
              some false
          else none
        else
          (fL_law_1874 L xs k23 r20.2 l4)
      else
        some false
    else none
  else none
theorem bL_law_1821 {X : Xc} {K : Kc} {L b cs ss : Nat} {xs : Nat → Int32} (C : MC X K cL_law 7 RL room_1) (hr : LH X K b L xs) (hfl : X.l.stackTraces = false) (hcs : cs + 12 ≤ 600002 ∧ ss + 72 ≤ 7302232) {k23 : Sg → Int32 → Option Bool} (hk23 : ∀ (σ : Sg) (l4 : Int32), GO X K 7 (lawQ K) (k23 σ l4) σ (cs + 12) (ss + 72) 23 [some (.ref b), some (.ref (X.ad 0)), some (.ref (X.ad 462)), some (.ref (X.ad 476)), some (.int (l4)), none, none] []) (σ : Sg) (l4 : Int32) : GO X K 7 (lawQ K) (fL_law_1821 L xs k23 σ l4) σ (cs + 0) (ss + 0) 1821 [some (.ref b), some (.ref (X.ad 0)), some (.ref (X.ad 462)), some (.ref (X.ad 476)), some (.int (l4)), none, none] [] := by
  unfold fL_law_1821
  refine g_aload_n (pc := 1821) (i := 1) C dL_law_1821 rfl rfl ?_
  refine g_aload_n (pc := 1822) (i := 0) C dL_law_1822 rfl rfl ?_
  refine g_iload (pc := 1823) C dL_law_1823 rfl ?_
  refine g_iconst (pc := 1825) (v := 1) C dL_law_1825 (by decide) ?_
  refine g_iadd (pc := 1826) C dL_law_1826 ?_
  refine g_sld (pc := 1827) C hr dL_law_1827 ?_
  refine g_aload_n (pc := 1828) (i := 3) C dL_law_1828 rfl rfl ?_
  refine g_callHi (pc := 1829) (As := [.ref (X.ad 0), .int (xs (l4 + 1).toNatClampNeg), .ref (X.ad 476)]) C (kL_type X σ (xs (l4 + 1).toNatClampNeg) 476 1 ok_out hfl) q_48_20 q_48_21 q_6_18 q_48_22 hdL_type ⟨Nat.le_of_ble_eq_true rfl, Nat.le_of_ble_eq_true rfl, rfl, rfl, by show _ ≤ 600002; omega, by show _ ≤ 7302232; omega⟩ (Nat.le_of_ble_eq_true rfl) rfl rfl dL_law_1829 (fun r19 _ => ?_)
  refine g_istore (pc := 1832) C dL_law_1832 (Nat.le_of_ble_eq_true rfl) rfl ?_
  refine g_aload_n (pc := 1834) (i := 2) C dL_law_1834 rfl rfl ?_
  refine g_aload_n (pc := 1835) (i := 0) C dL_law_1835 rfl rfl ?_
  refine g_iload (pc := 1836) C dL_law_1836 rfl ?_
  refine g_iconst (pc := 1838) (v := 1) C dL_law_1838 (by decide) ?_
  refine g_iadd (pc := 1839) C dL_law_1839 ?_
  refine g_sld (pc := 1840) C hr dL_law_1840 ?_
  refine g_callVi (pc := 1841) (As := [.int (xs (l4 + 1).toNatClampNeg)]) C (kX9_type X r19.2 462 (xs (l4 + 1).toNatClampNeg) ok_mo) (blk ok_mo 0 rfl) rfl q_49_12 q_49_13 q_49_14 q_1_5 q_49_15 ⟨rfl, hdX9_type⟩ ⟨Nat.le_of_ble_eq_true rfl, Nat.le_of_ble_eq_true rfl, rfl, rfl⟩ ⟨by show _ ≤ 600002; omega, by show _ ≤ 7302232; omega⟩ (Nat.le_of_ble_eq_true rfl) rfl rfl dL_law_1841 (fun r20 _ => ?_)
  refine g_istore (pc := 1844) C dL_law_1844 (Nat.le_of_ble_eq_true rfl) rfl ?_
  refine g_aload_n (pc := 1846) (i := 2) C dL_law_1846 rfl rfl ?_
  refine g_callVi (pc := 1847) (As := []) C (kX9_thrown X r20.2 462 ok_mo) (blk ok_mo 0 rfl) rfl q_10_23 q_11_0 q_11_1 q_1_5 q_11_2 ⟨rfl, hdX9_thrown⟩ ⟨Nat.le_of_ble_eq_true rfl, Nat.le_of_ble_eq_true rfl, rfl, rfl⟩ ⟨by show _ ≤ 600002; omega, by show _ ≤ 7302232; omega⟩ (Nat.le_of_ble_eq_true rfl) rfl rfl dL_law_1847 (fun r21 _ => ?_)
  refine g_iload (pc := 1850) C dL_law_1850 rfl ?_
  refine g_icmp_eq (pc := 1852) (tgt := 1857) C dL_law_1852 rfl ?_ ?_
  · refine g_iload (pc := 1857) C dL_law_1857 rfl ?_
    refine g_if_ne (pc := 1859) (tgt := 1874) C dL_law_1859 rfl ?_ ?_
    · refine g_aload_n (pc := 1862) (i := 3) C dL_law_1862 rfl rfl ?_
      refine g_iconst (pc := 1863) (v := 0) C dL_law_1863 (by decide) ?_
      refine g_laload (pc := 1864) C ok_out dL_law_1864 ?_
      refine g_iload (pc := 1865) C dL_law_1865 rfl ?_
      refine g_i2l (pc := 1867) C dL_law_1867 ?_
      refine g_lcmp (pc := 1868) C dL_law_1868 ?_
      refine g_if_eq (pc := 1869) (tgt := 1874) C dL_law_1869 rfl ?_ ?_
      · refine g_keep [true, true, true, true, true, false, false] ?_
        refine g_widen (cs' := cs + 12) (ss' := ss + 72) (by omega) (by omega) ?_
        exact bL_law_1874 C hr hfl hcs hk23 r20.2 l4
      · refine g_iconst (pc := 1872) (v := 0) C dL_law_1872 (by decide) ?_
        exact g_law_f
    · refine g_keep [true, true, true, true, true, false, false] ?_
      refine g_widen (cs' := cs + 12) (ss' := ss + 72) (by omega) (by omega) ?_
      exact bL_law_1874 C hr hfl hcs hk23 r20.2 l4
  · refine g_iconst (pc := 1855) (v := 0) C dL_law_1855 (by decide) ?_
    exact g_law_f
def fL_law_1818 (L : Nat) (xs : Nat → Int32) (k23 : Sg → Int32 → Option Bool) (σ : Sg) (l4 : Int32) : Option Bool :=
  (fL_law_2086 L xs k23 σ l4)
theorem bL_law_1818 {X : Xc} {K : Kc} {L b cs ss : Nat} {xs : Nat → Int32} (C : MC X K cL_law 7 RL room_1) (hr : LH X K b L xs) (hfl : X.l.stackTraces = false) (hcs : cs + 12 ≤ 600002 ∧ ss + 72 ≤ 7302232) {k23 : Sg → Int32 → Option Bool} (hk23 : ∀ (σ : Sg) (l4 : Int32), GO X K 7 (lawQ K) (k23 σ l4) σ (cs + 12) (ss + 72) 23 [some (.ref b), some (.ref (X.ad 0)), some (.ref (X.ad 462)), some (.ref (X.ad 476)), some (.int (l4)), none, none] []) (σ : Sg) (l4 : Int32) : GO X K 7 (lawQ K) (fL_law_1818 L xs k23 σ l4) σ (cs + 12) (ss + 72) 1818 [some (.ref b), some (.ref (X.ad 0)), some (.ref (X.ad 462)), some (.ref (X.ad 476)), some (.int (l4)), none, none] [] := by
  unfold fL_law_1818
  refine g_goto (pc := 1818) (tgt := 2086) C dL_law_1818 rfl ?_
  refine g_keep [true, true, true, true, true, false, false] ?_
  refine g_widen (cs' := cs + 12) (ss' := ss + 72) (by omega) (by omega) ?_
  exact bL_law_2086 C hr hfl hcs hk23 σ l4
def fL_law_1765 (L : Nat) (xs : Nat → Int32) (k23 : Sg → Int32 → Option Bool) (σ : Sg) (l4 : Int32) : Option Bool :=
  if ck (l4 + 1) L then
    (fL_restore σ (xs (l4 + 1).toNatClampNeg) 476 1).bind fun r22 =>
    if ck (l4 + 1) L then
      (fX9_restore r22.2 462 (xs (l4 + 1).toNatClampNeg)).bind fun r23 =>
      (fX9_thrown r23.2 462).bind fun r24 =>
      if r24 = r22.1 then
        if r22.1 = 0 then
          if ck 0 1 then
            if (lg_cmp (r23.2.2 476 (0 : Int32).toNatClampNeg) r23.1.toInt64) = 0 then
              (fL_law_1818 L xs k23 r23.2 l4)
            else
              some false
          else none
        else
          (fL_law_1818 L xs k23 r23.2 l4)
      else
        some false
    else none
  else none
theorem bL_law_1765 {X : Xc} {K : Kc} {L b cs ss : Nat} {xs : Nat → Int32} (C : MC X K cL_law 7 RL room_1) (hr : LH X K b L xs) (hfl : X.l.stackTraces = false) (hcs : cs + 12 ≤ 600002 ∧ ss + 72 ≤ 7302232) {k23 : Sg → Int32 → Option Bool} (hk23 : ∀ (σ : Sg) (l4 : Int32), GO X K 7 (lawQ K) (k23 σ l4) σ (cs + 12) (ss + 72) 23 [some (.ref b), some (.ref (X.ad 0)), some (.ref (X.ad 462)), some (.ref (X.ad 476)), some (.int (l4)), none, none] []) (σ : Sg) (l4 : Int32) : GO X K 7 (lawQ K) (fL_law_1765 L xs k23 σ l4) σ (cs + 0) (ss + 0) 1765 [some (.ref b), some (.ref (X.ad 0)), some (.ref (X.ad 462)), some (.ref (X.ad 476)), some (.int (l4)), none, none] [] := by
  unfold fL_law_1765
  refine g_aload_n (pc := 1765) (i := 1) C dL_law_1765 rfl rfl ?_
  refine g_aload_n (pc := 1766) (i := 0) C dL_law_1766 rfl rfl ?_
  refine g_iload (pc := 1767) C dL_law_1767 rfl ?_
  refine g_iconst (pc := 1769) (v := 1) C dL_law_1769 (by decide) ?_
  refine g_iadd (pc := 1770) C dL_law_1770 ?_
  refine g_sld (pc := 1771) C hr dL_law_1771 ?_
  refine g_aload_n (pc := 1772) (i := 3) C dL_law_1772 rfl rfl ?_
  refine g_callHi (pc := 1773) (As := [.ref (X.ad 0), .int (xs (l4 + 1).toNatClampNeg), .ref (X.ad 476)]) C (kL_restore X σ (xs (l4 + 1).toNatClampNeg) 476 1 ok_out hfl) q_47_11 q_47_12 q_6_18 q_47_13 hdL_restore ⟨Nat.le_of_ble_eq_true rfl, Nat.le_of_ble_eq_true rfl, rfl, rfl, by show _ ≤ 600002; omega, by show _ ≤ 7302232; omega⟩ (Nat.le_of_ble_eq_true rfl) rfl rfl dL_law_1773 (fun r22 _ => ?_)
  refine g_istore (pc := 1776) C dL_law_1776 (Nat.le_of_ble_eq_true rfl) rfl ?_
  refine g_aload_n (pc := 1778) (i := 2) C dL_law_1778 rfl rfl ?_
  refine g_aload_n (pc := 1779) (i := 0) C dL_law_1779 rfl rfl ?_
  refine g_iload (pc := 1780) C dL_law_1780 rfl ?_
  refine g_iconst (pc := 1782) (v := 1) C dL_law_1782 (by decide) ?_
  refine g_iadd (pc := 1783) C dL_law_1783 ?_
  refine g_sld (pc := 1784) C hr dL_law_1784 ?_
  refine g_callVi (pc := 1785) (As := [.int (xs (l4 + 1).toNatClampNeg)]) C (kX9_restore X r22.2 462 (xs (l4 + 1).toNatClampNeg) ok_mo) (blk ok_mo 0 rfl) rfl q_48_12 q_48_13 q_48_14 q_1_5 q_48_15 ⟨rfl, hdX9_restore⟩ ⟨Nat.le_of_ble_eq_true rfl, Nat.le_of_ble_eq_true rfl, rfl, rfl⟩ ⟨by show _ ≤ 600002; omega, by show _ ≤ 7302232; omega⟩ (Nat.le_of_ble_eq_true rfl) rfl rfl dL_law_1785 (fun r23 _ => ?_)
  refine g_istore (pc := 1788) C dL_law_1788 (Nat.le_of_ble_eq_true rfl) rfl ?_
  refine g_aload_n (pc := 1790) (i := 2) C dL_law_1790 rfl rfl ?_
  refine g_callVi (pc := 1791) (As := []) C (kX9_thrown X r23.2 462 ok_mo) (blk ok_mo 0 rfl) rfl q_10_23 q_11_0 q_11_1 q_1_5 q_11_2 ⟨rfl, hdX9_thrown⟩ ⟨Nat.le_of_ble_eq_true rfl, Nat.le_of_ble_eq_true rfl, rfl, rfl⟩ ⟨by show _ ≤ 600002; omega, by show _ ≤ 7302232; omega⟩ (Nat.le_of_ble_eq_true rfl) rfl rfl dL_law_1791 (fun r24 _ => ?_)
  refine g_iload (pc := 1794) C dL_law_1794 rfl ?_
  refine g_icmp_eq (pc := 1796) (tgt := 1801) C dL_law_1796 rfl ?_ ?_
  · refine g_iload (pc := 1801) C dL_law_1801 rfl ?_
    refine g_if_ne (pc := 1803) (tgt := 1818) C dL_law_1803 rfl ?_ ?_
    · refine g_aload_n (pc := 1806) (i := 3) C dL_law_1806 rfl rfl ?_
      refine g_iconst (pc := 1807) (v := 0) C dL_law_1807 (by decide) ?_
      refine g_laload (pc := 1808) C ok_out dL_law_1808 ?_
      refine g_iload (pc := 1809) C dL_law_1809 rfl ?_
      refine g_i2l (pc := 1811) C dL_law_1811 ?_
      refine g_lcmp (pc := 1812) C dL_law_1812 ?_
      refine g_if_eq (pc := 1813) (tgt := 1818) C dL_law_1813 rfl ?_ ?_
      · refine g_keep [true, true, true, true, true, false, false] ?_
        refine g_widen (cs' := cs + 12) (ss' := ss + 72) (by omega) (by omega) ?_
        exact bL_law_1818 C hr hfl hcs hk23 r23.2 l4
      · refine g_iconst (pc := 1816) (v := 0) C dL_law_1816 (by decide) ?_
        exact g_law_f
    · refine g_keep [true, true, true, true, true, false, false] ?_
      refine g_widen (cs' := cs + 12) (ss' := ss + 72) (by omega) (by omega) ?_
      exact bL_law_1818 C hr hfl hcs hk23 r23.2 l4
  · refine g_iconst (pc := 1799) (v := 0) C dL_law_1799 (by decide) ?_
    exact g_law_f
def fL_law_1762 (L : Nat) (xs : Nat → Int32) (k23 : Sg → Int32 → Option Bool) (σ : Sg) (l4 : Int32) : Option Bool :=
  (fL_law_2086 L xs k23 σ l4)
theorem bL_law_1762 {X : Xc} {K : Kc} {L b cs ss : Nat} {xs : Nat → Int32} (C : MC X K cL_law 7 RL room_1) (hr : LH X K b L xs) (hfl : X.l.stackTraces = false) (hcs : cs + 12 ≤ 600002 ∧ ss + 72 ≤ 7302232) {k23 : Sg → Int32 → Option Bool} (hk23 : ∀ (σ : Sg) (l4 : Int32), GO X K 7 (lawQ K) (k23 σ l4) σ (cs + 12) (ss + 72) 23 [some (.ref b), some (.ref (X.ad 0)), some (.ref (X.ad 462)), some (.ref (X.ad 476)), some (.int (l4)), none, none] []) (σ : Sg) (l4 : Int32) : GO X K 7 (lawQ K) (fL_law_1762 L xs k23 σ l4) σ (cs + 12) (ss + 72) 1762 [some (.ref b), some (.ref (X.ad 0)), some (.ref (X.ad 462)), some (.ref (X.ad 476)), some (.int (l4)), none, none] [] := by
  unfold fL_law_1762
  refine g_goto (pc := 1762) (tgt := 2086) C dL_law_1762 rfl ?_
  refine g_keep [true, true, true, true, true, false, false] ?_
  refine g_widen (cs' := cs + 12) (ss' := ss + 72) (by omega) (by omega) ?_
  exact bL_law_2086 C hr hfl hcs hk23 σ l4
def fL_law_1709 (L : Nat) (xs : Nat → Int32) (k23 : Sg → Int32 → Option Bool) (σ : Sg) (l4 : Int32) : Option Bool :=
  if ck (l4 + 1) L then
    (fL_store σ (xs (l4 + 1).toNatClampNeg) 476 1).bind fun r25 =>
    if ck (l4 + 1) L then
      (fX9_store r25.2 462 (xs (l4 + 1).toNatClampNeg)).bind fun r26 =>
      (fX9_thrown r26.2 462).bind fun r27 =>
      if r27 = r25.1 then
        if r25.1 = 0 then
          if ck 0 1 then
            if (lg_cmp (r26.2.2 476 (0 : Int32).toNatClampNeg) r26.1.toInt64) = 0 then
              (fL_law_1762 L xs k23 r26.2 l4)
            else
              some false
          else none
        else
          (fL_law_1762 L xs k23 r26.2 l4)
      else
        some false
    else none
  else none
theorem bL_law_1709 {X : Xc} {K : Kc} {L b cs ss : Nat} {xs : Nat → Int32} (C : MC X K cL_law 7 RL room_1) (hr : LH X K b L xs) (hfl : X.l.stackTraces = false) (hcs : cs + 12 ≤ 600002 ∧ ss + 72 ≤ 7302232) {k23 : Sg → Int32 → Option Bool} (hk23 : ∀ (σ : Sg) (l4 : Int32), GO X K 7 (lawQ K) (k23 σ l4) σ (cs + 12) (ss + 72) 23 [some (.ref b), some (.ref (X.ad 0)), some (.ref (X.ad 462)), some (.ref (X.ad 476)), some (.int (l4)), none, none] []) (σ : Sg) (l4 : Int32) : GO X K 7 (lawQ K) (fL_law_1709 L xs k23 σ l4) σ (cs + 0) (ss + 0) 1709 [some (.ref b), some (.ref (X.ad 0)), some (.ref (X.ad 462)), some (.ref (X.ad 476)), some (.int (l4)), none, none] [] := by
  unfold fL_law_1709
  refine g_aload_n (pc := 1709) (i := 1) C dL_law_1709 rfl rfl ?_
  refine g_aload_n (pc := 1710) (i := 0) C dL_law_1710 rfl rfl ?_
  refine g_iload (pc := 1711) C dL_law_1711 rfl ?_
  refine g_iconst (pc := 1713) (v := 1) C dL_law_1713 (by decide) ?_
  refine g_iadd (pc := 1714) C dL_law_1714 ?_
  refine g_sld (pc := 1715) C hr dL_law_1715 ?_
  refine g_aload_n (pc := 1716) (i := 3) C dL_law_1716 rfl rfl ?_
  refine g_callHi (pc := 1717) (As := [.ref (X.ad 0), .int (xs (l4 + 1).toNatClampNeg), .ref (X.ad 476)]) C (kL_store X σ (xs (l4 + 1).toNatClampNeg) 476 1 ok_out hfl) q_46_17 q_46_18 q_6_18 q_46_19 hdL_store ⟨Nat.le_of_ble_eq_true rfl, Nat.le_of_ble_eq_true rfl, rfl, rfl, by show _ ≤ 600002; omega, by show _ ≤ 7302232; omega⟩ (Nat.le_of_ble_eq_true rfl) rfl rfl dL_law_1717 (fun r25 _ => ?_)
  refine g_istore (pc := 1720) C dL_law_1720 (Nat.le_of_ble_eq_true rfl) rfl ?_
  refine g_aload_n (pc := 1722) (i := 2) C dL_law_1722 rfl rfl ?_
  refine g_aload_n (pc := 1723) (i := 0) C dL_law_1723 rfl rfl ?_
  refine g_iload (pc := 1724) C dL_law_1724 rfl ?_
  refine g_iconst (pc := 1726) (v := 1) C dL_law_1726 (by decide) ?_
  refine g_iadd (pc := 1727) C dL_law_1727 ?_
  refine g_sld (pc := 1728) C hr dL_law_1728 ?_
  refine g_callVi (pc := 1729) (As := [.int (xs (l4 + 1).toNatClampNeg)]) C (kX9_store X r25.2 462 (xs (l4 + 1).toNatClampNeg) ok_mo) (blk ok_mo 0 rfl) rfl q_47_7 q_47_8 q_47_9 q_1_5 q_47_10 ⟨rfl, hdX9_store⟩ ⟨Nat.le_of_ble_eq_true rfl, Nat.le_of_ble_eq_true rfl, rfl, rfl⟩ ⟨by show _ ≤ 600002; omega, by show _ ≤ 7302232; omega⟩ (Nat.le_of_ble_eq_true rfl) rfl rfl dL_law_1729 (fun r26 _ => ?_)
  refine g_istore (pc := 1732) C dL_law_1732 (Nat.le_of_ble_eq_true rfl) rfl ?_
  refine g_aload_n (pc := 1734) (i := 2) C dL_law_1734 rfl rfl ?_
  refine g_callVi (pc := 1735) (As := []) C (kX9_thrown X r26.2 462 ok_mo) (blk ok_mo 0 rfl) rfl q_10_23 q_11_0 q_11_1 q_1_5 q_11_2 ⟨rfl, hdX9_thrown⟩ ⟨Nat.le_of_ble_eq_true rfl, Nat.le_of_ble_eq_true rfl, rfl, rfl⟩ ⟨by show _ ≤ 600002; omega, by show _ ≤ 7302232; omega⟩ (Nat.le_of_ble_eq_true rfl) rfl rfl dL_law_1735 (fun r27 _ => ?_)
  refine g_iload (pc := 1738) C dL_law_1738 rfl ?_
  refine g_icmp_eq (pc := 1740) (tgt := 1745) C dL_law_1740 rfl ?_ ?_
  · refine g_iload (pc := 1745) C dL_law_1745 rfl ?_
    refine g_if_ne (pc := 1747) (tgt := 1762) C dL_law_1747 rfl ?_ ?_
    · refine g_aload_n (pc := 1750) (i := 3) C dL_law_1750 rfl rfl ?_
      refine g_iconst (pc := 1751) (v := 0) C dL_law_1751 (by decide) ?_
      refine g_laload (pc := 1752) C ok_out dL_law_1752 ?_
      refine g_iload (pc := 1753) C dL_law_1753 rfl ?_
      refine g_i2l (pc := 1755) C dL_law_1755 ?_
      refine g_lcmp (pc := 1756) C dL_law_1756 ?_
      refine g_if_eq (pc := 1757) (tgt := 1762) C dL_law_1757 rfl ?_ ?_
      · refine g_keep [true, true, true, true, true, false, false] ?_
        refine g_widen (cs' := cs + 12) (ss' := ss + 72) (by omega) (by omega) ?_
        exact bL_law_1762 C hr hfl hcs hk23 r26.2 l4
      · refine g_iconst (pc := 1760) (v := 0) C dL_law_1760 (by decide) ?_
        exact g_law_f
    · refine g_keep [true, true, true, true, true, false, false] ?_
      refine g_widen (cs' := cs + 12) (ss' := ss + 72) (by omega) (by omega) ?_
      exact bL_law_1762 C hr hfl hcs hk23 r26.2 l4
  · refine g_iconst (pc := 1743) (v := 0) C dL_law_1743 (by decide) ?_
    exact g_law_f
def fL_law_1672 (L : Nat) (xs : Nat → Int32) (k23 : Sg → Int32 → Option Bool) (σ : Sg) (l4 : Int32) : Option Bool :=
  if ck (l4 + 1) L then
    if ck (l4 + 2) L then
      (fX8_dropAt σ (xs (l4 + 1).toNatClampNeg) (xs (l4 + 2).toNatClampNeg)).bind fun r28 =>
      if ck (l4 + 1) L then
        if ck (l4 + 2) L then
          (fX9_dropAt σ 462 (xs (l4 + 1).toNatClampNeg) (xs (l4 + 2).toNatClampNeg)).bind fun r29 =>
          if r28 = r29.1 then
            (fL_law_2086 L xs k23 r29.2 l4)
          else
            some false
        else none
      else none
    else none
  else none
theorem bL_law_1672 {X : Xc} {K : Kc} {L b cs ss : Nat} {xs : Nat → Int32} (C : MC X K cL_law 7 RL room_1) (hr : LH X K b L xs) (hfl : X.l.stackTraces = false) (hcs : cs + 12 ≤ 600002 ∧ ss + 72 ≤ 7302232) {k23 : Sg → Int32 → Option Bool} (hk23 : ∀ (σ : Sg) (l4 : Int32), GO X K 7 (lawQ K) (k23 σ l4) σ (cs + 12) (ss + 72) 23 [some (.ref b), some (.ref (X.ad 0)), some (.ref (X.ad 462)), some (.ref (X.ad 476)), some (.int (l4)), none, none] []) (σ : Sg) (l4 : Int32) : GO X K 7 (lawQ K) (fL_law_1672 L xs k23 σ l4) σ (cs + 0) (ss + 0) 1672 [some (.ref b), some (.ref (X.ad 0)), some (.ref (X.ad 462)), some (.ref (X.ad 476)), some (.int (l4)), none, none] [] := by
  unfold fL_law_1672
  refine g_aload_n (pc := 1672) (i := 1) C dL_law_1672 rfl rfl ?_
  refine g_aload_n (pc := 1673) (i := 0) C dL_law_1673 rfl rfl ?_
  refine g_iload (pc := 1674) C dL_law_1674 rfl ?_
  refine g_iconst (pc := 1676) (v := 1) C dL_law_1676 (by decide) ?_
  refine g_iadd (pc := 1677) C dL_law_1677 ?_
  refine g_sld (pc := 1678) C hr dL_law_1678 ?_
  refine g_aload_n (pc := 1679) (i := 0) C dL_law_1679 rfl rfl ?_
  refine g_iload (pc := 1680) C dL_law_1680 rfl ?_
  refine g_iconst (pc := 1682) (v := 2) C dL_law_1682 (by decide) ?_
  refine g_iadd (pc := 1683) C dL_law_1683 ?_
  refine g_sld (pc := 1684) C hr dL_law_1684 ?_
  refine g_callVi (pc := 1685) (As := [.int (xs (l4 + 1).toNatClampNeg), .int (xs (l4 + 2).toNatClampNeg)]) C (kX8_dropAt X σ (xs (l4 + 1).toNatClampNeg) (xs (l4 + 2).toNatClampNeg)) ok_dl rfl q_46_5 q_46_6 q_46_7 q_1_2 q_46_8 ⟨rfl, hdX8_dropAt⟩ ⟨Nat.le_of_ble_eq_true rfl, Nat.le_of_ble_eq_true rfl, rfl, rfl⟩ ⟨by show _ ≤ 600002; omega, by show _ ≤ 7302232; omega⟩ (Nat.le_of_ble_eq_true rfl) rfl rfl dL_law_1685 (fun r28 _ => ?_)
  refine g_aload_n (pc := 1688) (i := 2) C dL_law_1688 rfl rfl ?_
  refine g_aload_n (pc := 1689) (i := 0) C dL_law_1689 rfl rfl ?_
  refine g_iload (pc := 1690) C dL_law_1690 rfl ?_
  refine g_iconst (pc := 1692) (v := 1) C dL_law_1692 (by decide) ?_
  refine g_iadd (pc := 1693) C dL_law_1693 ?_
  refine g_sld (pc := 1694) C hr dL_law_1694 ?_
  refine g_aload_n (pc := 1695) (i := 0) C dL_law_1695 rfl rfl ?_
  refine g_iload (pc := 1696) C dL_law_1696 rfl ?_
  refine g_iconst (pc := 1698) (v := 2) C dL_law_1698 (by decide) ?_
  refine g_iadd (pc := 1699) C dL_law_1699 ?_
  refine g_sld (pc := 1700) C hr dL_law_1700 ?_
  refine g_callVi (pc := 1701) (As := [.int (xs (l4 + 1).toNatClampNeg), .int (xs (l4 + 2).toNatClampNeg)]) C (kX9_dropAt X σ 462 (xs (l4 + 1).toNatClampNeg) (xs (l4 + 2).toNatClampNeg) ok_mo) (blk ok_mo 0 rfl) rfl q_46_13 q_46_14 q_46_15 q_1_5 q_46_16 ⟨rfl, hdX9_dropAt⟩ ⟨Nat.le_of_ble_eq_true rfl, Nat.le_of_ble_eq_true rfl, rfl, rfl⟩ ⟨by show _ ≤ 600002; omega, by show _ ≤ 7302232; omega⟩ (Nat.le_of_ble_eq_true rfl) rfl rfl dL_law_1701 (fun r29 _ => ?_)
  refine g_icmp_eq (pc := 1704) (tgt := 2086) C dL_law_1704 rfl ?_ ?_
  · refine g_keep [true, true, true, true, true, false, false] ?_
    refine g_widen (cs' := cs + 12) (ss' := ss + 72) (by omega) (by omega) ?_
    exact bL_law_2086 C hr hfl hcs hk23 r29.2 l4
  · refine g_iconst (pc := 1707) (v := 0) C dL_law_1707 (by decide) ?_
    exact g_law_f
def fL_law_1635 (L : Nat) (xs : Nat → Int32) (k23 : Sg → Int32 → Option Bool) (σ : Sg) (l4 : Int32) : Option Bool :=
  if ck (l4 + 1) L then
    if ck (l4 + 2) L then
      (fX8_paneAt σ (xs (l4 + 1).toNatClampNeg) (xs (l4 + 2).toNatClampNeg)).bind fun r30 =>
      if ck (l4 + 1) L then
        if ck (l4 + 2) L then
          (fX9_paneAt σ 462 (xs (l4 + 1).toNatClampNeg) (xs (l4 + 2).toNatClampNeg)).bind fun r31 =>
          if r30 = r31.1 then
            (fL_law_2086 L xs k23 r31.2 l4)
          else
            some false
        else none
      else none
    else none
  else none
theorem bL_law_1635 {X : Xc} {K : Kc} {L b cs ss : Nat} {xs : Nat → Int32} (C : MC X K cL_law 7 RL room_1) (hr : LH X K b L xs) (hfl : X.l.stackTraces = false) (hcs : cs + 12 ≤ 600002 ∧ ss + 72 ≤ 7302232) {k23 : Sg → Int32 → Option Bool} (hk23 : ∀ (σ : Sg) (l4 : Int32), GO X K 7 (lawQ K) (k23 σ l4) σ (cs + 12) (ss + 72) 23 [some (.ref b), some (.ref (X.ad 0)), some (.ref (X.ad 462)), some (.ref (X.ad 476)), some (.int (l4)), none, none] []) (σ : Sg) (l4 : Int32) : GO X K 7 (lawQ K) (fL_law_1635 L xs k23 σ l4) σ (cs + 0) (ss + 0) 1635 [some (.ref b), some (.ref (X.ad 0)), some (.ref (X.ad 462)), some (.ref (X.ad 476)), some (.int (l4)), none, none] [] := by
  unfold fL_law_1635
  refine g_aload_n (pc := 1635) (i := 1) C dL_law_1635 rfl rfl ?_
  refine g_aload_n (pc := 1636) (i := 0) C dL_law_1636 rfl rfl ?_
  refine g_iload (pc := 1637) C dL_law_1637 rfl ?_
  refine g_iconst (pc := 1639) (v := 1) C dL_law_1639 (by decide) ?_
  refine g_iadd (pc := 1640) C dL_law_1640 ?_
  refine g_sld (pc := 1641) C hr dL_law_1641 ?_
  refine g_aload_n (pc := 1642) (i := 0) C dL_law_1642 rfl rfl ?_
  refine g_iload (pc := 1643) C dL_law_1643 rfl ?_
  refine g_iconst (pc := 1645) (v := 2) C dL_law_1645 (by decide) ?_
  refine g_iadd (pc := 1646) C dL_law_1646 ?_
  refine g_sld (pc := 1647) C hr dL_law_1647 ?_
  refine g_callVi (pc := 1648) (As := [.int (xs (l4 + 1).toNatClampNeg), .int (xs (l4 + 2).toNatClampNeg)]) C (kX8_paneAt X σ (xs (l4 + 1).toNatClampNeg) (xs (l4 + 2).toNatClampNeg)) ok_dl rfl q_45_9 q_45_10 q_45_11 q_1_2 q_45_12 ⟨rfl, hdX8_paneAt⟩ ⟨Nat.le_of_ble_eq_true rfl, Nat.le_of_ble_eq_true rfl, rfl, rfl⟩ ⟨by show _ ≤ 600002; omega, by show _ ≤ 7302232; omega⟩ (Nat.le_of_ble_eq_true rfl) rfl rfl dL_law_1648 (fun r30 _ => ?_)
  refine g_aload_n (pc := 1651) (i := 2) C dL_law_1651 rfl rfl ?_
  refine g_aload_n (pc := 1652) (i := 0) C dL_law_1652 rfl rfl ?_
  refine g_iload (pc := 1653) C dL_law_1653 rfl ?_
  refine g_iconst (pc := 1655) (v := 1) C dL_law_1655 (by decide) ?_
  refine g_iadd (pc := 1656) C dL_law_1656 ?_
  refine g_sld (pc := 1657) C hr dL_law_1657 ?_
  refine g_aload_n (pc := 1658) (i := 0) C dL_law_1658 rfl rfl ?_
  refine g_iload (pc := 1659) C dL_law_1659 rfl ?_
  refine g_iconst (pc := 1661) (v := 2) C dL_law_1661 (by decide) ?_
  refine g_iadd (pc := 1662) C dL_law_1662 ?_
  refine g_sld (pc := 1663) C hr dL_law_1663 ?_
  refine g_callVi (pc := 1664) (As := [.int (xs (l4 + 1).toNatClampNeg), .int (xs (l4 + 2).toNatClampNeg)]) C (kX9_paneAt X σ 462 (xs (l4 + 1).toNatClampNeg) (xs (l4 + 2).toNatClampNeg) ok_mo) (blk ok_mo 0 rfl) rfl q_46_1 q_46_2 q_46_3 q_1_5 q_46_4 ⟨rfl, hdX9_paneAt⟩ ⟨Nat.le_of_ble_eq_true rfl, Nat.le_of_ble_eq_true rfl, rfl, rfl⟩ ⟨by show _ ≤ 600002; omega, by show _ ≤ 7302232; omega⟩ (Nat.le_of_ble_eq_true rfl) rfl rfl dL_law_1664 (fun r31 _ => ?_)
  refine g_icmp_eq (pc := 1667) (tgt := 2086) C dL_law_1667 rfl ?_ ?_
  · refine g_keep [true, true, true, true, true, false, false] ?_
    refine g_widen (cs' := cs + 12) (ss' := ss + 72) (by omega) (by omega) ?_
    exact bL_law_2086 C hr hfl hcs hk23 r31.2 l4
  · refine g_iconst (pc := 1670) (v := 0) C dL_law_1670 (by decide) ?_
    exact g_law_f
def fL_law_1598 (L : Nat) (xs : Nat → Int32) (k23 : Sg → Int32 → Option Bool) (σ : Sg) (l4 : Int32) : Option Bool :=
  if ck (l4 + 1) L then
    if ck (l4 + 2) L then
      (fX8_kindAt σ (xs (l4 + 1).toNatClampNeg) (xs (l4 + 2).toNatClampNeg)).bind fun r32 =>
      if ck (l4 + 1) L then
        if ck (l4 + 2) L then
          (fX9_kindAt σ 462 (xs (l4 + 1).toNatClampNeg) (xs (l4 + 2).toNatClampNeg)).bind fun r33 =>
          if r32 = r33.1 then
            (fL_law_2086 L xs k23 r33.2 l4)
          else
            some false
        else none
      else none
    else none
  else none
theorem bL_law_1598 {X : Xc} {K : Kc} {L b cs ss : Nat} {xs : Nat → Int32} (C : MC X K cL_law 7 RL room_1) (hr : LH X K b L xs) (hfl : X.l.stackTraces = false) (hcs : cs + 12 ≤ 600002 ∧ ss + 72 ≤ 7302232) {k23 : Sg → Int32 → Option Bool} (hk23 : ∀ (σ : Sg) (l4 : Int32), GO X K 7 (lawQ K) (k23 σ l4) σ (cs + 12) (ss + 72) 23 [some (.ref b), some (.ref (X.ad 0)), some (.ref (X.ad 462)), some (.ref (X.ad 476)), some (.int (l4)), none, none] []) (σ : Sg) (l4 : Int32) : GO X K 7 (lawQ K) (fL_law_1598 L xs k23 σ l4) σ (cs + 0) (ss + 0) 1598 [some (.ref b), some (.ref (X.ad 0)), some (.ref (X.ad 462)), some (.ref (X.ad 476)), some (.int (l4)), none, none] [] := by
  unfold fL_law_1598
  refine g_aload_n (pc := 1598) (i := 1) C dL_law_1598 rfl rfl ?_
  refine g_aload_n (pc := 1599) (i := 0) C dL_law_1599 rfl rfl ?_
  refine g_iload (pc := 1600) C dL_law_1600 rfl ?_
  refine g_iconst (pc := 1602) (v := 1) C dL_law_1602 (by decide) ?_
  refine g_iadd (pc := 1603) C dL_law_1603 ?_
  refine g_sld (pc := 1604) C hr dL_law_1604 ?_
  refine g_aload_n (pc := 1605) (i := 0) C dL_law_1605 rfl rfl ?_
  refine g_iload (pc := 1606) C dL_law_1606 rfl ?_
  refine g_iconst (pc := 1608) (v := 2) C dL_law_1608 (by decide) ?_
  refine g_iadd (pc := 1609) C dL_law_1609 ?_
  refine g_sld (pc := 1610) C hr dL_law_1610 ?_
  refine g_callVi (pc := 1611) (As := [.int (xs (l4 + 1).toNatClampNeg), .int (xs (l4 + 2).toNatClampNeg)]) C (kX8_kindAt X σ (xs (l4 + 1).toNatClampNeg) (xs (l4 + 2).toNatClampNeg)) ok_dl rfl q_43_13 q_43_14 q_43_15 q_1_2 q_43_16 ⟨rfl, hdX8_kindAt⟩ ⟨Nat.le_of_ble_eq_true rfl, Nat.le_of_ble_eq_true rfl, rfl, rfl⟩ ⟨by show _ ≤ 600002; omega, by show _ ≤ 7302232; omega⟩ (Nat.le_of_ble_eq_true rfl) rfl rfl dL_law_1611 (fun r32 _ => ?_)
  refine g_aload_n (pc := 1614) (i := 2) C dL_law_1614 rfl rfl ?_
  refine g_aload_n (pc := 1615) (i := 0) C dL_law_1615 rfl rfl ?_
  refine g_iload (pc := 1616) C dL_law_1616 rfl ?_
  refine g_iconst (pc := 1618) (v := 1) C dL_law_1618 (by decide) ?_
  refine g_iadd (pc := 1619) C dL_law_1619 ?_
  refine g_sld (pc := 1620) C hr dL_law_1620 ?_
  refine g_aload_n (pc := 1621) (i := 0) C dL_law_1621 rfl rfl ?_
  refine g_iload (pc := 1622) C dL_law_1622 rfl ?_
  refine g_iconst (pc := 1624) (v := 2) C dL_law_1624 (by decide) ?_
  refine g_iadd (pc := 1625) C dL_law_1625 ?_
  refine g_sld (pc := 1626) C hr dL_law_1626 ?_
  refine g_callVi (pc := 1627) (As := [.int (xs (l4 + 1).toNatClampNeg), .int (xs (l4 + 2).toNatClampNeg)]) C (kX9_kindAt X σ 462 (xs (l4 + 1).toNatClampNeg) (xs (l4 + 2).toNatClampNeg) ok_mo) (blk ok_mo 0 rfl) rfl q_44_13 q_44_14 q_44_15 q_1_5 q_44_16 ⟨rfl, hdX9_kindAt⟩ ⟨Nat.le_of_ble_eq_true rfl, Nat.le_of_ble_eq_true rfl, rfl, rfl⟩ ⟨by show _ ≤ 600002; omega, by show _ ≤ 7302232; omega⟩ (Nat.le_of_ble_eq_true rfl) rfl rfl dL_law_1627 (fun r33 _ => ?_)
  refine g_icmp_eq (pc := 1630) (tgt := 2086) C dL_law_1630 rfl ?_ ?_
  · refine g_keep [true, true, true, true, true, false, false] ?_
    refine g_widen (cs' := cs + 12) (ss' := ss + 72) (by omega) (by omega) ?_
    exact bL_law_2086 C hr hfl hcs hk23 r33.2 l4
  · refine g_iconst (pc := 1633) (v := 0) C dL_law_1633 (by decide) ?_
    exact g_law_f
def fL_law_1573 (L : Nat) (xs : Nat → Int32) (k23 : Sg → Int32 → Option Bool) (σ : Sg) (l4 : Int32) : Option Bool :=
  if ck (l4 + 1) L then
    (fX8_focus σ (xs (l4 + 1).toNatClampNeg)).bind fun r34 =>
    if ck (l4 + 1) L then
      (fX9_focus σ 462 (xs (l4 + 1).toNatClampNeg)).bind fun r35 =>
      if r34 = r35.1 then
        (fL_law_2086 L xs k23 r35.2 l4)
      else
        some false
    else none
  else none
theorem bL_law_1573 {X : Xc} {K : Kc} {L b cs ss : Nat} {xs : Nat → Int32} (C : MC X K cL_law 7 RL room_1) (hr : LH X K b L xs) (hfl : X.l.stackTraces = false) (hcs : cs + 12 ≤ 600002 ∧ ss + 72 ≤ 7302232) {k23 : Sg → Int32 → Option Bool} (hk23 : ∀ (σ : Sg) (l4 : Int32), GO X K 7 (lawQ K) (k23 σ l4) σ (cs + 12) (ss + 72) 23 [some (.ref b), some (.ref (X.ad 0)), some (.ref (X.ad 462)), some (.ref (X.ad 476)), some (.int (l4)), none, none] []) (σ : Sg) (l4 : Int32) : GO X K 7 (lawQ K) (fL_law_1573 L xs k23 σ l4) σ (cs + 0) (ss + 0) 1573 [some (.ref b), some (.ref (X.ad 0)), some (.ref (X.ad 462)), some (.ref (X.ad 476)), some (.int (l4)), none, none] [] := by
  unfold fL_law_1573
  refine g_aload_n (pc := 1573) (i := 1) C dL_law_1573 rfl rfl ?_
  refine g_aload_n (pc := 1574) (i := 0) C dL_law_1574 rfl rfl ?_
  refine g_iload (pc := 1575) C dL_law_1575 rfl ?_
  refine g_iconst (pc := 1577) (v := 1) C dL_law_1577 (by decide) ?_
  refine g_iadd (pc := 1578) C dL_law_1578 ?_
  refine g_sld (pc := 1579) C hr dL_law_1579 ?_
  refine g_callVi (pc := 1580) (As := [.int (xs (l4 + 1).toNatClampNeg)]) C (kX8_focus X σ (xs (l4 + 1).toNatClampNeg)) ok_dl rfl q_43_5 q_43_6 q_43_7 q_1_2 q_43_8 ⟨rfl, hdX8_focus⟩ ⟨Nat.le_of_ble_eq_true rfl, Nat.le_of_ble_eq_true rfl, rfl, rfl⟩ ⟨by show _ ≤ 600002; omega, by show _ ≤ 7302232; omega⟩ (Nat.le_of_ble_eq_true rfl) rfl rfl dL_law_1580 (fun r34 _ => ?_)
  refine g_aload_n (pc := 1583) (i := 2) C dL_law_1583 rfl rfl ?_
  refine g_aload_n (pc := 1584) (i := 0) C dL_law_1584 rfl rfl ?_
  refine g_iload (pc := 1585) C dL_law_1585 rfl ?_
  refine g_iconst (pc := 1587) (v := 1) C dL_law_1587 (by decide) ?_
  refine g_iadd (pc := 1588) C dL_law_1588 ?_
  refine g_sld (pc := 1589) C hr dL_law_1589 ?_
  refine g_callVi (pc := 1590) (As := [.int (xs (l4 + 1).toNatClampNeg)]) C (kX9_focus X σ 462 (xs (l4 + 1).toNatClampNeg) ok_mo) (blk ok_mo 0 rfl) rfl q_43_9 q_43_10 q_43_11 q_1_5 q_43_12 ⟨rfl, hdX9_focus⟩ ⟨Nat.le_of_ble_eq_true rfl, Nat.le_of_ble_eq_true rfl, rfl, rfl⟩ ⟨by show _ ≤ 600002; omega, by show _ ≤ 7302232; omega⟩ (Nat.le_of_ble_eq_true rfl) rfl rfl dL_law_1590 (fun r35 _ => ?_)
  refine g_icmp_eq (pc := 1593) (tgt := 2086) C dL_law_1593 rfl ?_ ?_
  · refine g_keep [true, true, true, true, true, false, false] ?_
    refine g_widen (cs' := cs + 12) (ss' := ss + 72) (by omega) (by omega) ?_
    exact bL_law_2086 C hr hfl hcs hk23 r35.2 l4
  · refine g_iconst (pc := 1596) (v := 0) C dL_law_1596 (by decide) ?_
    exact g_law_f
def fL_law_1570 (L : Nat) (xs : Nat → Int32) (k23 : Sg → Int32 → Option Bool) (σ : Sg) (l4 : Int32) : Option Bool :=
  (fL_law_2086 L xs k23 σ l4)
theorem bL_law_1570 {X : Xc} {K : Kc} {L b cs ss : Nat} {xs : Nat → Int32} (C : MC X K cL_law 7 RL room_1) (hr : LH X K b L xs) (hfl : X.l.stackTraces = false) (hcs : cs + 12 ≤ 600002 ∧ ss + 72 ≤ 7302232) {k23 : Sg → Int32 → Option Bool} (hk23 : ∀ (σ : Sg) (l4 : Int32), GO X K 7 (lawQ K) (k23 σ l4) σ (cs + 12) (ss + 72) 23 [some (.ref b), some (.ref (X.ad 0)), some (.ref (X.ad 462)), some (.ref (X.ad 476)), some (.int (l4)), none, none] []) (σ : Sg) (l4 : Int32) : GO X K 7 (lawQ K) (fL_law_1570 L xs k23 σ l4) σ (cs + 12) (ss + 72) 1570 [some (.ref b), some (.ref (X.ad 0)), some (.ref (X.ad 462)), some (.ref (X.ad 476)), some (.int (l4)), none, none] [] := by
  unfold fL_law_1570
  refine g_goto (pc := 1570) (tgt := 2086) C dL_law_1570 rfl ?_
  refine g_keep [true, true, true, true, true, false, false] ?_
  refine g_widen (cs' := cs + 12) (ss' := ss + 72) (by omega) (by omega) ?_
  exact bL_law_2086 C hr hfl hcs hk23 σ l4
def fL_law_1517 (L : Nat) (xs : Nat → Int32) (k23 : Sg → Int32 → Option Bool) (σ : Sg) (l4 : Int32) : Option Bool :=
  if ck (l4 + 1) L then
    (fL_even σ (xs (l4 + 1).toNatClampNeg) 476 1).bind fun r36 =>
    if ck (l4 + 1) L then
      (fX9_even r36.2 462 (xs (l4 + 1).toNatClampNeg)).bind fun r37 =>
      (fX9_thrown r37.2 462).bind fun r38 =>
      if r38 = r36.1 then
        if r36.1 = 0 then
          if ck 0 1 then
            if (lg_cmp (r37.2.2 476 (0 : Int32).toNatClampNeg) r37.1.toInt64) = 0 then
              (fL_law_1570 L xs k23 r37.2 l4)
            else
              some false
          else none
        else
          (fL_law_1570 L xs k23 r37.2 l4)
      else
        some false
    else none
  else none
theorem bL_law_1517 {X : Xc} {K : Kc} {L b cs ss : Nat} {xs : Nat → Int32} (C : MC X K cL_law 7 RL room_1) (hr : LH X K b L xs) (hfl : X.l.stackTraces = false) (hcs : cs + 12 ≤ 600002 ∧ ss + 72 ≤ 7302232) {k23 : Sg → Int32 → Option Bool} (hk23 : ∀ (σ : Sg) (l4 : Int32), GO X K 7 (lawQ K) (k23 σ l4) σ (cs + 12) (ss + 72) 23 [some (.ref b), some (.ref (X.ad 0)), some (.ref (X.ad 462)), some (.ref (X.ad 476)), some (.int (l4)), none, none] []) (σ : Sg) (l4 : Int32) : GO X K 7 (lawQ K) (fL_law_1517 L xs k23 σ l4) σ (cs + 0) (ss + 0) 1517 [some (.ref b), some (.ref (X.ad 0)), some (.ref (X.ad 462)), some (.ref (X.ad 476)), some (.int (l4)), none, none] [] := by
  unfold fL_law_1517
  refine g_aload_n (pc := 1517) (i := 1) C dL_law_1517 rfl rfl ?_
  refine g_aload_n (pc := 1518) (i := 0) C dL_law_1518 rfl rfl ?_
  refine g_iload (pc := 1519) C dL_law_1519 rfl ?_
  refine g_iconst (pc := 1521) (v := 1) C dL_law_1521 (by decide) ?_
  refine g_iadd (pc := 1522) C dL_law_1522 ?_
  refine g_sld (pc := 1523) C hr dL_law_1523 ?_
  refine g_aload_n (pc := 1524) (i := 3) C dL_law_1524 rfl rfl ?_
  refine g_callHi (pc := 1525) (As := [.ref (X.ad 0), .int (xs (l4 + 1).toNatClampNeg), .ref (X.ad 476)]) C (kL_even X σ (xs (l4 + 1).toNatClampNeg) 476 1 ok_out hfl) q_42_18 q_42_19 q_6_18 q_42_20 hdL_even ⟨Nat.le_of_ble_eq_true rfl, Nat.le_of_ble_eq_true rfl, rfl, rfl, by show _ ≤ 600002; omega, by show _ ≤ 7302232; omega⟩ (Nat.le_of_ble_eq_true rfl) rfl rfl dL_law_1525 (fun r36 _ => ?_)
  refine g_istore (pc := 1528) C dL_law_1528 (Nat.le_of_ble_eq_true rfl) rfl ?_
  refine g_aload_n (pc := 1530) (i := 2) C dL_law_1530 rfl rfl ?_
  refine g_aload_n (pc := 1531) (i := 0) C dL_law_1531 rfl rfl ?_
  refine g_iload (pc := 1532) C dL_law_1532 rfl ?_
  refine g_iconst (pc := 1534) (v := 1) C dL_law_1534 (by decide) ?_
  refine g_iadd (pc := 1535) C dL_law_1535 ?_
  refine g_sld (pc := 1536) C hr dL_law_1536 ?_
  refine g_callVi (pc := 1537) (As := [.int (xs (l4 + 1).toNatClampNeg)]) C (kX9_even X r36.2 462 (xs (l4 + 1).toNatClampNeg) ok_mo) (blk ok_mo 0 rfl) rfl q_43_1 q_43_2 q_43_3 q_1_5 q_43_4 ⟨rfl, hdX9_even⟩ ⟨Nat.le_of_ble_eq_true rfl, Nat.le_of_ble_eq_true rfl, rfl, rfl⟩ ⟨by show _ ≤ 600002; omega, by show _ ≤ 7302232; omega⟩ (Nat.le_of_ble_eq_true rfl) rfl rfl dL_law_1537 (fun r37 _ => ?_)
  refine g_istore (pc := 1540) C dL_law_1540 (Nat.le_of_ble_eq_true rfl) rfl ?_
  refine g_aload_n (pc := 1542) (i := 2) C dL_law_1542 rfl rfl ?_
  refine g_callVi (pc := 1543) (As := []) C (kX9_thrown X r37.2 462 ok_mo) (blk ok_mo 0 rfl) rfl q_10_23 q_11_0 q_11_1 q_1_5 q_11_2 ⟨rfl, hdX9_thrown⟩ ⟨Nat.le_of_ble_eq_true rfl, Nat.le_of_ble_eq_true rfl, rfl, rfl⟩ ⟨by show _ ≤ 600002; omega, by show _ ≤ 7302232; omega⟩ (Nat.le_of_ble_eq_true rfl) rfl rfl dL_law_1543 (fun r38 _ => ?_)
  refine g_iload (pc := 1546) C dL_law_1546 rfl ?_
  refine g_icmp_eq (pc := 1548) (tgt := 1553) C dL_law_1548 rfl ?_ ?_
  · refine g_iload (pc := 1553) C dL_law_1553 rfl ?_
    refine g_if_ne (pc := 1555) (tgt := 1570) C dL_law_1555 rfl ?_ ?_
    · refine g_aload_n (pc := 1558) (i := 3) C dL_law_1558 rfl rfl ?_
      refine g_iconst (pc := 1559) (v := 0) C dL_law_1559 (by decide) ?_
      refine g_laload (pc := 1560) C ok_out dL_law_1560 ?_
      refine g_iload (pc := 1561) C dL_law_1561 rfl ?_
      refine g_i2l (pc := 1563) C dL_law_1563 ?_
      refine g_lcmp (pc := 1564) C dL_law_1564 ?_
      refine g_if_eq (pc := 1565) (tgt := 1570) C dL_law_1565 rfl ?_ ?_
      · refine g_keep [true, true, true, true, true, false, false] ?_
        refine g_widen (cs' := cs + 12) (ss' := ss + 72) (by omega) (by omega) ?_
        exact bL_law_1570 C hr hfl hcs hk23 r37.2 l4
      · refine g_iconst (pc := 1568) (v := 0) C dL_law_1568 (by decide) ?_
        exact g_law_f
    · refine g_keep [true, true, true, true, true, false, false] ?_
      refine g_widen (cs' := cs + 12) (ss' := ss + 72) (by omega) (by omega) ?_
      exact bL_law_1570 C hr hfl hcs hk23 r37.2 l4
  · refine g_iconst (pc := 1551) (v := 0) C dL_law_1551 (by decide) ?_
    exact g_law_f
def fL_law_1514 (L : Nat) (xs : Nat → Int32) (k23 : Sg → Int32 → Option Bool) (σ : Sg) (l4 : Int32) : Option Bool :=
  (fL_law_2086 L xs k23 σ l4)
theorem bL_law_1514 {X : Xc} {K : Kc} {L b cs ss : Nat} {xs : Nat → Int32} (C : MC X K cL_law 7 RL room_1) (hr : LH X K b L xs) (hfl : X.l.stackTraces = false) (hcs : cs + 12 ≤ 600002 ∧ ss + 72 ≤ 7302232) {k23 : Sg → Int32 → Option Bool} (hk23 : ∀ (σ : Sg) (l4 : Int32), GO X K 7 (lawQ K) (k23 σ l4) σ (cs + 12) (ss + 72) 23 [some (.ref b), some (.ref (X.ad 0)), some (.ref (X.ad 462)), some (.ref (X.ad 476)), some (.int (l4)), none, none] []) (σ : Sg) (l4 : Int32) : GO X K 7 (lawQ K) (fL_law_1514 L xs k23 σ l4) σ (cs + 12) (ss + 72) 1514 [some (.ref b), some (.ref (X.ad 0)), some (.ref (X.ad 462)), some (.ref (X.ad 476)), some (.int (l4)), none, none] [] := by
  unfold fL_law_1514
  refine g_goto (pc := 1514) (tgt := 2086) C dL_law_1514 rfl ?_
  refine g_keep [true, true, true, true, true, false, false] ?_
  refine g_widen (cs' := cs + 12) (ss' := ss + 72) (by omega) (by omega) ?_
  exact bL_law_2086 C hr hfl hcs hk23 σ l4
def fL_law_1437 (L : Nat) (xs : Nat → Int32) (k23 : Sg → Int32 → Option Bool) (σ : Sg) (l4 : Int32) : Option Bool :=
  if ck (l4 + 1) L then
    if ck (l4 + 2) L then
      if ck (l4 + 3) L then
        (fL_drag σ (xs (l4 + 1).toNatClampNeg) (xs (l4 + 2).toNatClampNeg) (xs (l4 + 3).toNatClampNeg) 476 1).bind fun r39 =>
        if ck (l4 + 1) L then
          if ck (l4 + 2) L then
            if ck (l4 + 3) L then
              (fX9_drag r39.2 462 (xs (l4 + 1).toNatClampNeg) (xs (l4 + 2).toNatClampNeg) (xs (l4 + 3).toNatClampNeg)).bind fun r40 =>
              (fX9_thrown r40.2 462).bind fun r41 =>
              if r41 = r39.1 then
                if r39.1 = 0 then
                  if ck 0 1 then
                    if (lg_cmp (r40.2.2 476 (0 : Int32).toNatClampNeg) r40.1.toInt64) = 0 then
                      (fL_law_1514 L xs k23 r40.2 l4)
                    else
                      some false
                  else none
                else
                  (fL_law_1514 L xs k23 r40.2 l4)
              else
                some false
            else none
          else none
        else none
      else none
    else none
  else none
theorem bL_law_1437 {X : Xc} {K : Kc} {L b cs ss : Nat} {xs : Nat → Int32} (C : MC X K cL_law 7 RL room_1) (hr : LH X K b L xs) (hfl : X.l.stackTraces = false) (hcs : cs + 12 ≤ 600002 ∧ ss + 72 ≤ 7302232) {k23 : Sg → Int32 → Option Bool} (hk23 : ∀ (σ : Sg) (l4 : Int32), GO X K 7 (lawQ K) (k23 σ l4) σ (cs + 12) (ss + 72) 23 [some (.ref b), some (.ref (X.ad 0)), some (.ref (X.ad 462)), some (.ref (X.ad 476)), some (.int (l4)), none, none] []) (σ : Sg) (l4 : Int32) : GO X K 7 (lawQ K) (fL_law_1437 L xs k23 σ l4) σ (cs + 0) (ss + 0) 1437 [some (.ref b), some (.ref (X.ad 0)), some (.ref (X.ad 462)), some (.ref (X.ad 476)), some (.int (l4)), none, none] [] := by
  unfold fL_law_1437
  refine g_aload_n (pc := 1437) (i := 1) C dL_law_1437 rfl rfl ?_
  refine g_aload_n (pc := 1438) (i := 0) C dL_law_1438 rfl rfl ?_
  refine g_iload (pc := 1439) C dL_law_1439 rfl ?_
  refine g_iconst (pc := 1441) (v := 1) C dL_law_1441 (by decide) ?_
  refine g_iadd (pc := 1442) C dL_law_1442 ?_
  refine g_sld (pc := 1443) C hr dL_law_1443 ?_
  refine g_aload_n (pc := 1444) (i := 0) C dL_law_1444 rfl rfl ?_
  refine g_iload (pc := 1445) C dL_law_1445 rfl ?_
  refine g_iconst (pc := 1447) (v := 2) C dL_law_1447 (by decide) ?_
  refine g_iadd (pc := 1448) C dL_law_1448 ?_
  refine g_sld (pc := 1449) C hr dL_law_1449 ?_
  refine g_aload_n (pc := 1450) (i := 0) C dL_law_1450 rfl rfl ?_
  refine g_iload (pc := 1451) C dL_law_1451 rfl ?_
  refine g_iconst (pc := 1453) (v := 3) C dL_law_1453 (by decide) ?_
  refine g_iadd (pc := 1454) C dL_law_1454 ?_
  refine g_sld (pc := 1455) C hr dL_law_1455 ?_
  refine g_aload_n (pc := 1456) (i := 3) C dL_law_1456 rfl rfl ?_
  refine g_callHi (pc := 1457) (As := [.ref (X.ad 0), .int (xs (l4 + 1).toNatClampNeg), .int (xs (l4 + 2).toNatClampNeg), .int (xs (l4 + 3).toNatClampNeg), .ref (X.ad 476)]) C (kL_drag X σ (xs (l4 + 1).toNatClampNeg) (xs (l4 + 2).toNatClampNeg) (xs (l4 + 3).toNatClampNeg) 476 1 ok_out hfl) q_40_6 q_40_7 q_6_18 q_40_8 hdL_drag ⟨Nat.le_of_ble_eq_true rfl, Nat.le_of_ble_eq_true rfl, rfl, rfl, by show _ ≤ 600002; omega, by show _ ≤ 7302232; omega⟩ (Nat.le_of_ble_eq_true rfl) rfl rfl dL_law_1457 (fun r39 _ => ?_)
  refine g_istore (pc := 1460) C dL_law_1460 (Nat.le_of_ble_eq_true rfl) rfl ?_
  refine g_aload_n (pc := 1462) (i := 2) C dL_law_1462 rfl rfl ?_
  refine g_aload_n (pc := 1463) (i := 0) C dL_law_1463 rfl rfl ?_
  refine g_iload (pc := 1464) C dL_law_1464 rfl ?_
  refine g_iconst (pc := 1466) (v := 1) C dL_law_1466 (by decide) ?_
  refine g_iadd (pc := 1467) C dL_law_1467 ?_
  refine g_sld (pc := 1468) C hr dL_law_1468 ?_
  refine g_aload_n (pc := 1469) (i := 0) C dL_law_1469 rfl rfl ?_
  refine g_iload (pc := 1470) C dL_law_1470 rfl ?_
  refine g_iconst (pc := 1472) (v := 2) C dL_law_1472 (by decide) ?_
  refine g_iadd (pc := 1473) C dL_law_1473 ?_
  refine g_sld (pc := 1474) C hr dL_law_1474 ?_
  refine g_aload_n (pc := 1475) (i := 0) C dL_law_1475 rfl rfl ?_
  refine g_iload (pc := 1476) C dL_law_1476 rfl ?_
  refine g_iconst (pc := 1478) (v := 3) C dL_law_1478 (by decide) ?_
  refine g_iadd (pc := 1479) C dL_law_1479 ?_
  refine g_sld (pc := 1480) C hr dL_law_1480 ?_
  refine g_callVi (pc := 1481) (As := [.int (xs (l4 + 1).toNatClampNeg), .int (xs (l4 + 2).toNatClampNeg), .int (xs (l4 + 3).toNatClampNeg)]) C (kX9_drag X r39.2 462 (xs (l4 + 1).toNatClampNeg) (xs (l4 + 2).toNatClampNeg) (xs (l4 + 3).toNatClampNeg) ok_mo) (blk ok_mo 0 rfl) rfl q_42_2 q_42_3 q_42_4 q_1_5 q_42_5 ⟨rfl, hdX9_drag⟩ ⟨Nat.le_of_ble_eq_true rfl, Nat.le_of_ble_eq_true rfl, rfl, rfl⟩ ⟨by show _ ≤ 600002; omega, by show _ ≤ 7302232; omega⟩ (Nat.le_of_ble_eq_true rfl) rfl rfl dL_law_1481 (fun r40 _ => ?_)
  refine g_istore (pc := 1484) C dL_law_1484 (Nat.le_of_ble_eq_true rfl) rfl ?_
  refine g_aload_n (pc := 1486) (i := 2) C dL_law_1486 rfl rfl ?_
  refine g_callVi (pc := 1487) (As := []) C (kX9_thrown X r40.2 462 ok_mo) (blk ok_mo 0 rfl) rfl q_10_23 q_11_0 q_11_1 q_1_5 q_11_2 ⟨rfl, hdX9_thrown⟩ ⟨Nat.le_of_ble_eq_true rfl, Nat.le_of_ble_eq_true rfl, rfl, rfl⟩ ⟨by show _ ≤ 600002; omega, by show _ ≤ 7302232; omega⟩ (Nat.le_of_ble_eq_true rfl) rfl rfl dL_law_1487 (fun r41 _ => ?_)
  refine g_iload (pc := 1490) C dL_law_1490 rfl ?_
  refine g_icmp_eq (pc := 1492) (tgt := 1497) C dL_law_1492 rfl ?_ ?_
  · refine g_iload (pc := 1497) C dL_law_1497 rfl ?_
    refine g_if_ne (pc := 1499) (tgt := 1514) C dL_law_1499 rfl ?_ ?_
    · refine g_aload_n (pc := 1502) (i := 3) C dL_law_1502 rfl rfl ?_
      refine g_iconst (pc := 1503) (v := 0) C dL_law_1503 (by decide) ?_
      refine g_laload (pc := 1504) C ok_out dL_law_1504 ?_
      refine g_iload (pc := 1505) C dL_law_1505 rfl ?_
      refine g_i2l (pc := 1507) C dL_law_1507 ?_
      refine g_lcmp (pc := 1508) C dL_law_1508 ?_
      refine g_if_eq (pc := 1509) (tgt := 1514) C dL_law_1509 rfl ?_ ?_
      · refine g_keep [true, true, true, true, true, false, false] ?_
        refine g_widen (cs' := cs + 12) (ss' := ss + 72) (by omega) (by omega) ?_
        exact bL_law_1514 C hr hfl hcs hk23 r40.2 l4
      · refine g_iconst (pc := 1512) (v := 0) C dL_law_1512 (by decide) ?_
        exact g_law_f
    · refine g_keep [true, true, true, true, true, false, false] ?_
      refine g_widen (cs' := cs + 12) (ss' := ss + 72) (by omega) (by omega) ?_
      exact bL_law_1514 C hr hfl hcs hk23 r40.2 l4
  · refine g_iconst (pc := 1495) (v := 0) C dL_law_1495 (by decide) ?_
    exact g_law_f
def fL_law_1434 (L : Nat) (xs : Nat → Int32) (k23 : Sg → Int32 → Option Bool) (σ : Sg) (l4 : Int32) : Option Bool :=
  (fL_law_2086 L xs k23 σ l4)
theorem bL_law_1434 {X : Xc} {K : Kc} {L b cs ss : Nat} {xs : Nat → Int32} (C : MC X K cL_law 7 RL room_1) (hr : LH X K b L xs) (hfl : X.l.stackTraces = false) (hcs : cs + 12 ≤ 600002 ∧ ss + 72 ≤ 7302232) {k23 : Sg → Int32 → Option Bool} (hk23 : ∀ (σ : Sg) (l4 : Int32), GO X K 7 (lawQ K) (k23 σ l4) σ (cs + 12) (ss + 72) 23 [some (.ref b), some (.ref (X.ad 0)), some (.ref (X.ad 462)), some (.ref (X.ad 476)), some (.int (l4)), none, none] []) (σ : Sg) (l4 : Int32) : GO X K 7 (lawQ K) (fL_law_1434 L xs k23 σ l4) σ (cs + 12) (ss + 72) 1434 [some (.ref b), some (.ref (X.ad 0)), some (.ref (X.ad 462)), some (.ref (X.ad 476)), some (.int (l4)), none, none] [] := by
  unfold fL_law_1434
  refine g_goto (pc := 1434) (tgt := 2086) C dL_law_1434 rfl ?_
  refine g_keep [true, true, true, true, true, false, false] ?_
  refine g_widen (cs' := cs + 12) (ss' := ss + 72) (by omega) (by omega) ?_
  exact bL_law_2086 C hr hfl hcs hk23 σ l4
def fL_law_1369 (L : Nat) (xs : Nat → Int32) (k23 : Sg → Int32 → Option Bool) (σ : Sg) (l4 : Int32) : Option Bool :=
  if ck (l4 + 1) L then
    if ck (l4 + 2) L then
      (fL_moveTab σ (xs (l4 + 1).toNatClampNeg) (xs (l4 + 2).toNatClampNeg) 476 1).bind fun r42 =>
      if ck (l4 + 1) L then
        if ck (l4 + 2) L then
          (fX9_moveTab r42.2 462 (xs (l4 + 1).toNatClampNeg) (xs (l4 + 2).toNatClampNeg)).bind fun r43 =>
          (fX9_thrown r43.2 462).bind fun r44 =>
          if r44 = r42.1 then
            if r42.1 = 0 then
              if ck 0 1 then
                if (lg_cmp (r43.2.2 476 (0 : Int32).toNatClampNeg) r43.1.toInt64) = 0 then
                  (fL_law_1434 L xs k23 r43.2 l4)
                else
                  some false
              else none
            else
              (fL_law_1434 L xs k23 r43.2 l4)
          else
            some false
        else none
      else none
    else none
  else none
theorem bL_law_1369 {X : Xc} {K : Kc} {L b cs ss : Nat} {xs : Nat → Int32} (C : MC X K cL_law 7 RL room_1) (hr : LH X K b L xs) (hfl : X.l.stackTraces = false) (hcs : cs + 12 ≤ 600002 ∧ ss + 72 ≤ 7302232) {k23 : Sg → Int32 → Option Bool} (hk23 : ∀ (σ : Sg) (l4 : Int32), GO X K 7 (lawQ K) (k23 σ l4) σ (cs + 12) (ss + 72) 23 [some (.ref b), some (.ref (X.ad 0)), some (.ref (X.ad 462)), some (.ref (X.ad 476)), some (.int (l4)), none, none] []) (σ : Sg) (l4 : Int32) : GO X K 7 (lawQ K) (fL_law_1369 L xs k23 σ l4) σ (cs + 0) (ss + 0) 1369 [some (.ref b), some (.ref (X.ad 0)), some (.ref (X.ad 462)), some (.ref (X.ad 476)), some (.int (l4)), none, none] [] := by
  unfold fL_law_1369
  refine g_aload_n (pc := 1369) (i := 1) C dL_law_1369 rfl rfl ?_
  refine g_aload_n (pc := 1370) (i := 0) C dL_law_1370 rfl rfl ?_
  refine g_iload (pc := 1371) C dL_law_1371 rfl ?_
  refine g_iconst (pc := 1373) (v := 1) C dL_law_1373 (by decide) ?_
  refine g_iadd (pc := 1374) C dL_law_1374 ?_
  refine g_sld (pc := 1375) C hr dL_law_1375 ?_
  refine g_aload_n (pc := 1376) (i := 0) C dL_law_1376 rfl rfl ?_
  refine g_iload (pc := 1377) C dL_law_1377 rfl ?_
  refine g_iconst (pc := 1379) (v := 2) C dL_law_1379 (by decide) ?_
  refine g_iadd (pc := 1380) C dL_law_1380 ?_
  refine g_sld (pc := 1381) C hr dL_law_1381 ?_
  refine g_aload_n (pc := 1382) (i := 3) C dL_law_1382 rfl rfl ?_
  refine g_callHi (pc := 1383) (As := [.ref (X.ad 0), .int (xs (l4 + 1).toNatClampNeg), .int (xs (l4 + 2).toNatClampNeg), .ref (X.ad 476)]) C (kL_moveTab X σ (xs (l4 + 1).toNatClampNeg) (xs (l4 + 2).toNatClampNeg) 476 1 ok_out hfl) q_39_18 q_39_19 q_6_18 q_39_20 hdL_moveTab ⟨Nat.le_of_ble_eq_true rfl, Nat.le_of_ble_eq_true rfl, rfl, rfl, by show _ ≤ 600002; omega, by show _ ≤ 7302232; omega⟩ (Nat.le_of_ble_eq_true rfl) rfl rfl dL_law_1383 (fun r42 _ => ?_)
  refine g_istore (pc := 1386) C dL_law_1386 (Nat.le_of_ble_eq_true rfl) rfl ?_
  refine g_aload_n (pc := 1388) (i := 2) C dL_law_1388 rfl rfl ?_
  refine g_aload_n (pc := 1389) (i := 0) C dL_law_1389 rfl rfl ?_
  refine g_iload (pc := 1390) C dL_law_1390 rfl ?_
  refine g_iconst (pc := 1392) (v := 1) C dL_law_1392 (by decide) ?_
  refine g_iadd (pc := 1393) C dL_law_1393 ?_
  refine g_sld (pc := 1394) C hr dL_law_1394 ?_
  refine g_aload_n (pc := 1395) (i := 0) C dL_law_1395 rfl rfl ?_
  refine g_iload (pc := 1396) C dL_law_1396 rfl ?_
  refine g_iconst (pc := 1398) (v := 2) C dL_law_1398 (by decide) ?_
  refine g_iadd (pc := 1399) C dL_law_1399 ?_
  refine g_sld (pc := 1400) C hr dL_law_1400 ?_
  refine g_callVi (pc := 1401) (As := [.int (xs (l4 + 1).toNatClampNeg), .int (xs (l4 + 2).toNatClampNeg)]) C (kX9_moveTab X r42.2 462 (xs (l4 + 1).toNatClampNeg) (xs (l4 + 2).toNatClampNeg) ok_mo) (blk ok_mo 0 rfl) rfl q_40_2 q_40_3 q_40_4 q_1_5 q_40_5 ⟨rfl, hdX9_moveTab⟩ ⟨Nat.le_of_ble_eq_true rfl, Nat.le_of_ble_eq_true rfl, rfl, rfl⟩ ⟨by show _ ≤ 600002; omega, by show _ ≤ 7302232; omega⟩ (Nat.le_of_ble_eq_true rfl) rfl rfl dL_law_1401 (fun r43 _ => ?_)
  refine g_istore (pc := 1404) C dL_law_1404 (Nat.le_of_ble_eq_true rfl) rfl ?_
  refine g_aload_n (pc := 1406) (i := 2) C dL_law_1406 rfl rfl ?_
  refine g_callVi (pc := 1407) (As := []) C (kX9_thrown X r43.2 462 ok_mo) (blk ok_mo 0 rfl) rfl q_10_23 q_11_0 q_11_1 q_1_5 q_11_2 ⟨rfl, hdX9_thrown⟩ ⟨Nat.le_of_ble_eq_true rfl, Nat.le_of_ble_eq_true rfl, rfl, rfl⟩ ⟨by show _ ≤ 600002; omega, by show _ ≤ 7302232; omega⟩ (Nat.le_of_ble_eq_true rfl) rfl rfl dL_law_1407 (fun r44 _ => ?_)
  refine g_iload (pc := 1410) C dL_law_1410 rfl ?_
  refine g_icmp_eq (pc := 1412) (tgt := 1417) C dL_law_1412 rfl ?_ ?_
  · refine g_iload (pc := 1417) C dL_law_1417 rfl ?_
    refine g_if_ne (pc := 1419) (tgt := 1434) C dL_law_1419 rfl ?_ ?_
    · refine g_aload_n (pc := 1422) (i := 3) C dL_law_1422 rfl rfl ?_
      refine g_iconst (pc := 1423) (v := 0) C dL_law_1423 (by decide) ?_
      refine g_laload (pc := 1424) C ok_out dL_law_1424 ?_
      refine g_iload (pc := 1425) C dL_law_1425 rfl ?_
      refine g_i2l (pc := 1427) C dL_law_1427 ?_
      refine g_lcmp (pc := 1428) C dL_law_1428 ?_
      refine g_if_eq (pc := 1429) (tgt := 1434) C dL_law_1429 rfl ?_ ?_
      · refine g_keep [true, true, true, true, true, false, false] ?_
        refine g_widen (cs' := cs + 12) (ss' := ss + 72) (by omega) (by omega) ?_
        exact bL_law_1434 C hr hfl hcs hk23 r43.2 l4
      · refine g_iconst (pc := 1432) (v := 0) C dL_law_1432 (by decide) ?_
        exact g_law_f
    · refine g_keep [true, true, true, true, true, false, false] ?_
      refine g_widen (cs' := cs + 12) (ss' := ss + 72) (by omega) (by omega) ?_
      exact bL_law_1434 C hr hfl hcs hk23 r43.2 l4
  · refine g_iconst (pc := 1415) (v := 0) C dL_law_1415 (by decide) ?_
    exact g_law_f
def fL_law_1366 (L : Nat) (xs : Nat → Int32) (k23 : Sg → Int32 → Option Bool) (σ : Sg) (l4 : Int32) : Option Bool :=
  (fL_law_2086 L xs k23 σ l4)
theorem bL_law_1366 {X : Xc} {K : Kc} {L b cs ss : Nat} {xs : Nat → Int32} (C : MC X K cL_law 7 RL room_1) (hr : LH X K b L xs) (hfl : X.l.stackTraces = false) (hcs : cs + 12 ≤ 600002 ∧ ss + 72 ≤ 7302232) {k23 : Sg → Int32 → Option Bool} (hk23 : ∀ (σ : Sg) (l4 : Int32), GO X K 7 (lawQ K) (k23 σ l4) σ (cs + 12) (ss + 72) 23 [some (.ref b), some (.ref (X.ad 0)), some (.ref (X.ad 462)), some (.ref (X.ad 476)), some (.int (l4)), none, none] []) (σ : Sg) (l4 : Int32) : GO X K 7 (lawQ K) (fL_law_1366 L xs k23 σ l4) σ (cs + 12) (ss + 72) 1366 [some (.ref b), some (.ref (X.ad 0)), some (.ref (X.ad 462)), some (.ref (X.ad 476)), some (.int (l4)), none, none] [] := by
  unfold fL_law_1366
  refine g_goto (pc := 1366) (tgt := 2086) C dL_law_1366 rfl ?_
  refine g_keep [true, true, true, true, true, false, false] ?_
  refine g_widen (cs' := cs + 12) (ss' := ss + 72) (by omega) (by omega) ?_
  exact bL_law_2086 C hr hfl hcs hk23 σ l4
def fL_law_1313 (L : Nat) (xs : Nat → Int32) (k23 : Sg → Int32 → Option Bool) (σ : Sg) (l4 : Int32) : Option Bool :=
  if ck (l4 + 1) L then
    (fL_activate σ (xs (l4 + 1).toNatClampNeg) 476 1).bind fun r45 =>
    if ck (l4 + 1) L then
      (fX9_activate r45.2 462 (xs (l4 + 1).toNatClampNeg)).bind fun r46 =>
      (fX9_thrown r46.2 462).bind fun r47 =>
      if r47 = r45.1 then
        if r45.1 = 0 then
          if ck 0 1 then
            if (lg_cmp (r46.2.2 476 (0 : Int32).toNatClampNeg) r46.1.toInt64) = 0 then
              (fL_law_1366 L xs k23 r46.2 l4)
            else
              some false
          else none
        else
          (fL_law_1366 L xs k23 r46.2 l4)
      else
        some false
    else none
  else none
theorem bL_law_1313 {X : Xc} {K : Kc} {L b cs ss : Nat} {xs : Nat → Int32} (C : MC X K cL_law 7 RL room_1) (hr : LH X K b L xs) (hfl : X.l.stackTraces = false) (hcs : cs + 12 ≤ 600002 ∧ ss + 72 ≤ 7302232) {k23 : Sg → Int32 → Option Bool} (hk23 : ∀ (σ : Sg) (l4 : Int32), GO X K 7 (lawQ K) (k23 σ l4) σ (cs + 12) (ss + 72) 23 [some (.ref b), some (.ref (X.ad 0)), some (.ref (X.ad 462)), some (.ref (X.ad 476)), some (.int (l4)), none, none] []) (σ : Sg) (l4 : Int32) : GO X K 7 (lawQ K) (fL_law_1313 L xs k23 σ l4) σ (cs + 0) (ss + 0) 1313 [some (.ref b), some (.ref (X.ad 0)), some (.ref (X.ad 462)), some (.ref (X.ad 476)), some (.int (l4)), none, none] [] := by
  unfold fL_law_1313
  refine g_aload_n (pc := 1313) (i := 1) C dL_law_1313 rfl rfl ?_
  refine g_aload_n (pc := 1314) (i := 0) C dL_law_1314 rfl rfl ?_
  refine g_iload (pc := 1315) C dL_law_1315 rfl ?_
  refine g_iconst (pc := 1317) (v := 1) C dL_law_1317 (by decide) ?_
  refine g_iadd (pc := 1318) C dL_law_1318 ?_
  refine g_sld (pc := 1319) C hr dL_law_1319 ?_
  refine g_aload_n (pc := 1320) (i := 3) C dL_law_1320 rfl rfl ?_
  refine g_callHi (pc := 1321) (As := [.ref (X.ad 0), .int (xs (l4 + 1).toNatClampNeg), .ref (X.ad 476)]) C (kL_activate X σ (xs (l4 + 1).toNatClampNeg) 476 1 ok_out hfl) q_38_23 q_39_0 q_6_18 q_39_1 hdL_activate ⟨Nat.le_of_ble_eq_true rfl, Nat.le_of_ble_eq_true rfl, rfl, rfl, by show _ ≤ 600002; omega, by show _ ≤ 7302232; omega⟩ (Nat.le_of_ble_eq_true rfl) rfl rfl dL_law_1321 (fun r45 _ => ?_)
  refine g_istore (pc := 1324) C dL_law_1324 (Nat.le_of_ble_eq_true rfl) rfl ?_
  refine g_aload_n (pc := 1326) (i := 2) C dL_law_1326 rfl rfl ?_
  refine g_aload_n (pc := 1327) (i := 0) C dL_law_1327 rfl rfl ?_
  refine g_iload (pc := 1328) C dL_law_1328 rfl ?_
  refine g_iconst (pc := 1330) (v := 1) C dL_law_1330 (by decide) ?_
  refine g_iadd (pc := 1331) C dL_law_1331 ?_
  refine g_sld (pc := 1332) C hr dL_law_1332 ?_
  refine g_callVi (pc := 1333) (As := [.int (xs (l4 + 1).toNatClampNeg)]) C (kX9_activate X r45.2 462 (xs (l4 + 1).toNatClampNeg) ok_mo) (blk ok_mo 0 rfl) rfl q_39_10 q_39_11 q_39_12 q_1_5 q_39_13 ⟨rfl, hdX9_activate⟩ ⟨Nat.le_of_ble_eq_true rfl, Nat.le_of_ble_eq_true rfl, rfl, rfl⟩ ⟨by show _ ≤ 600002; omega, by show _ ≤ 7302232; omega⟩ (Nat.le_of_ble_eq_true rfl) rfl rfl dL_law_1333 (fun r46 _ => ?_)
  refine g_istore (pc := 1336) C dL_law_1336 (Nat.le_of_ble_eq_true rfl) rfl ?_
  refine g_aload_n (pc := 1338) (i := 2) C dL_law_1338 rfl rfl ?_
  refine g_callVi (pc := 1339) (As := []) C (kX9_thrown X r46.2 462 ok_mo) (blk ok_mo 0 rfl) rfl q_10_23 q_11_0 q_11_1 q_1_5 q_11_2 ⟨rfl, hdX9_thrown⟩ ⟨Nat.le_of_ble_eq_true rfl, Nat.le_of_ble_eq_true rfl, rfl, rfl⟩ ⟨by show _ ≤ 600002; omega, by show _ ≤ 7302232; omega⟩ (Nat.le_of_ble_eq_true rfl) rfl rfl dL_law_1339 (fun r47 _ => ?_)
  refine g_iload (pc := 1342) C dL_law_1342 rfl ?_
  refine g_icmp_eq (pc := 1344) (tgt := 1349) C dL_law_1344 rfl ?_ ?_
  · refine g_iload (pc := 1349) C dL_law_1349 rfl ?_
    refine g_if_ne (pc := 1351) (tgt := 1366) C dL_law_1351 rfl ?_ ?_
    · refine g_aload_n (pc := 1354) (i := 3) C dL_law_1354 rfl rfl ?_
      refine g_iconst (pc := 1355) (v := 0) C dL_law_1355 (by decide) ?_
      refine g_laload (pc := 1356) C ok_out dL_law_1356 ?_
      refine g_iload (pc := 1357) C dL_law_1357 rfl ?_
      refine g_i2l (pc := 1359) C dL_law_1359 ?_
      refine g_lcmp (pc := 1360) C dL_law_1360 ?_
      refine g_if_eq (pc := 1361) (tgt := 1366) C dL_law_1361 rfl ?_ ?_
      · refine g_keep [true, true, true, true, true, false, false] ?_
        refine g_widen (cs' := cs + 12) (ss' := ss + 72) (by omega) (by omega) ?_
        exact bL_law_1366 C hr hfl hcs hk23 r46.2 l4
      · refine g_iconst (pc := 1364) (v := 0) C dL_law_1364 (by decide) ?_
        exact g_law_f
    · refine g_keep [true, true, true, true, true, false, false] ?_
      refine g_widen (cs' := cs + 12) (ss' := ss + 72) (by omega) (by omega) ?_
      exact bL_law_1366 C hr hfl hcs hk23 r46.2 l4
  · refine g_iconst (pc := 1347) (v := 0) C dL_law_1347 (by decide) ?_
    exact g_law_f
def fL_law_1310 (L : Nat) (xs : Nat → Int32) (k23 : Sg → Int32 → Option Bool) (σ : Sg) (l4 : Int32) : Option Bool :=
  (fL_law_2086 L xs k23 σ l4)
theorem bL_law_1310 {X : Xc} {K : Kc} {L b cs ss : Nat} {xs : Nat → Int32} (C : MC X K cL_law 7 RL room_1) (hr : LH X K b L xs) (hfl : X.l.stackTraces = false) (hcs : cs + 12 ≤ 600002 ∧ ss + 72 ≤ 7302232) {k23 : Sg → Int32 → Option Bool} (hk23 : ∀ (σ : Sg) (l4 : Int32), GO X K 7 (lawQ K) (k23 σ l4) σ (cs + 12) (ss + 72) 23 [some (.ref b), some (.ref (X.ad 0)), some (.ref (X.ad 462)), some (.ref (X.ad 476)), some (.int (l4)), none, none] []) (σ : Sg) (l4 : Int32) : GO X K 7 (lawQ K) (fL_law_1310 L xs k23 σ l4) σ (cs + 12) (ss + 72) 1310 [some (.ref b), some (.ref (X.ad 0)), some (.ref (X.ad 462)), some (.ref (X.ad 476)), some (.int (l4)), none, none] [] := by
  unfold fL_law_1310
  refine g_goto (pc := 1310) (tgt := 2086) C dL_law_1310 rfl ?_
  refine g_keep [true, true, true, true, true, false, false] ?_
  refine g_widen (cs' := cs + 12) (ss' := ss + 72) (by omega) (by omega) ?_
  exact bL_law_2086 C hr hfl hcs hk23 σ l4
def fL_law_1304 (L : Nat) (xs : Nat → Int32) (k23 : Sg → Int32 → Option Bool) (σ : Sg) (l4 : Int32) (s0 : Int64) (s1 : Int64) : Option Bool :=
  if (lg_cmp s0 s1) = 0 then
    (fL_law_1310 L xs k23 σ l4)
  else
    some false
theorem bL_law_1304 {X : Xc} {K : Kc} {L b cs ss : Nat} {xs : Nat → Int32} (C : MC X K cL_law 7 RL room_1) (hr : LH X K b L xs) (hfl : X.l.stackTraces = false) (hcs : cs + 12 ≤ 600002 ∧ ss + 72 ≤ 7302232) {k23 : Sg → Int32 → Option Bool} (hk23 : ∀ (σ : Sg) (l4 : Int32), GO X K 7 (lawQ K) (k23 σ l4) σ (cs + 12) (ss + 72) 23 [some (.ref b), some (.ref (X.ad 0)), some (.ref (X.ad 462)), some (.ref (X.ad 476)), some (.int (l4)), none, none] []) (σ : Sg) (l4 : Int32) (s0 : Int64) (s1 : Int64) : GO X K 7 (lawQ K) (fL_law_1304 L xs k23 σ l4 s0 s1) σ (cs + 12) (ss + 72) 1304 [some (.ref b), some (.ref (X.ad 0)), some (.ref (X.ad 462)), some (.ref (X.ad 476)), some (.int (l4)), none, none] [.long (s1), .long (s0)] := by
  unfold fL_law_1304
  refine g_lcmp (pc := 1304) C dL_law_1304 ?_
  refine g_if_eq (pc := 1305) (tgt := 1310) C dL_law_1305 rfl ?_ ?_
  · refine g_keep [true, true, true, true, true, false, false] ?_
    refine g_widen (cs' := cs + 12) (ss' := ss + 72) (by omega) (by omega) ?_
    exact bL_law_1310 C hr hfl hcs hk23 σ l4
  · refine g_iconst (pc := 1308) (v := 0) C dL_law_1308 (by decide) ?_
    exact g_law_f
def fL_law_1270 (L : Nat) (xs : Nat → Int32) (k23 : Sg → Int32 → Option Bool) (σ : Sg) (l4 : Int32) (l5 : Int32) (s1 : Int32) (s2 : Int32) : Option Bool :=
  (fX9_show σ 462 s1 s2).bind fun r49 =>
  (fX9_thrown r49.2 462).bind fun r50 =>
  if r50 = l5 then
    if l5 = 0 then
      if ck 0 1 then
        if r49.1 = true then
          (fL_law_1304 L xs k23 r49.2 l4 (r49.2.2 476 (0 : Int32).toNatClampNeg) (1 : Int64))
        else
          (fL_law_1304 L xs k23 r49.2 l4 (r49.2.2 476 (0 : Int32).toNatClampNeg) (0 : Int64))
      else none
    else
      (fL_law_1310 L xs k23 r49.2 l4)
  else
    some false
theorem bL_law_1270 {X : Xc} {K : Kc} {L b cs ss : Nat} {xs : Nat → Int32} (C : MC X K cL_law 7 RL room_1) (hr : LH X K b L xs) (hfl : X.l.stackTraces = false) (hcs : cs + 12 ≤ 600002 ∧ ss + 72 ≤ 7302232) {k23 : Sg → Int32 → Option Bool} (hk23 : ∀ (σ : Sg) (l4 : Int32), GO X K 7 (lawQ K) (k23 σ l4) σ (cs + 12) (ss + 72) 23 [some (.ref b), some (.ref (X.ad 0)), some (.ref (X.ad 462)), some (.ref (X.ad 476)), some (.int (l4)), none, none] []) (σ : Sg) (l4 : Int32) (l5 : Int32) (s1 : Int32) (s2 : Int32) : GO X K 7 (lawQ K) (fL_law_1270 L xs k23 σ l4 l5 s1 s2) σ (cs + 12) (ss + 72) 1270 [some (.ref b), some (.ref (X.ad 0)), some (.ref (X.ad 462)), some (.ref (X.ad 476)), some (.int (l4)), some (.int (l5)), none] [.int (s2), .int (s1), .ref (X.ad 462)] := by
  unfold fL_law_1270
  refine g_callVi (pc := 1270) (As := [.int (s1), .int (s2)]) C (kX9_show X σ 462 s1 s2 ok_mo) (blk ok_mo 0 rfl) rfl q_38_19 q_38_20 q_38_21 q_1_5 q_38_22 ⟨rfl, hdX9_show⟩ ⟨Nat.le_of_ble_eq_true rfl, Nat.le_of_ble_eq_true rfl, rfl, rfl⟩ ⟨by show _ ≤ 600002; omega, by show _ ≤ 7302232; omega⟩ (Nat.le_of_ble_eq_true rfl) rfl rfl dL_law_1270 (fun r49 _ => ?_)
  refine g_istore (pc := 1273) C dL_law_1273 (Nat.le_of_ble_eq_true rfl) rfl ?_
  refine g_aload_n (pc := 1275) (i := 2) C dL_law_1275 rfl rfl ?_
  refine g_callVi (pc := 1276) (As := []) C (kX9_thrown X r49.2 462 ok_mo) (blk ok_mo 0 rfl) rfl q_10_23 q_11_0 q_11_1 q_1_5 q_11_2 ⟨rfl, hdX9_thrown⟩ ⟨Nat.le_of_ble_eq_true rfl, Nat.le_of_ble_eq_true rfl, rfl, rfl⟩ ⟨by show _ ≤ 600002; omega, by show _ ≤ 7302232; omega⟩ (Nat.le_of_ble_eq_true rfl) rfl rfl dL_law_1276 (fun r50 _ => ?_)
  refine g_iload (pc := 1279) C dL_law_1279 rfl ?_
  refine g_icmp_eq (pc := 1281) (tgt := 1286) C dL_law_1281 rfl ?_ ?_
  · refine g_iload (pc := 1286) C dL_law_1286 rfl ?_
    refine g_if_ne (pc := 1288) (tgt := 1310) C dL_law_1288 rfl ?_ ?_
    · refine g_aload_n (pc := 1291) (i := 3) C dL_law_1291 rfl rfl ?_
      refine g_iconst (pc := 1292) (v := 0) C dL_law_1292 (by decide) ?_
      refine g_laload (pc := 1293) C ok_out dL_law_1293 ?_
      refine g_iload (pc := 1294) C dL_law_1294 rfl ?_
      refine g_ifb_eq (pc := 1296) (tgt := 1303) C dL_law_1296 rfl ?_ ?_
      · refine g_lconst (pc := 1299) (v := 1) C dL_law_1299 (by decide) ?_
        refine g_goto (pc := 1300) (tgt := 1304) C dL_law_1300 rfl ?_
        refine g_keep [true, true, true, true, true, false, false] ?_
        refine g_widen (cs' := cs + 12) (ss' := ss + 72) (by omega) (by omega) ?_
        exact bL_law_1304 C hr hfl hcs hk23 r49.2 l4 (r49.2.2 476 (0 : Int32).toNatClampNeg) (1 : Int64)
      · refine g_lconst (pc := 1303) (v := 0) C dL_law_1303 (by decide) ?_
        refine g_keep [true, true, true, true, true, false, false] ?_
        refine g_widen (cs' := cs + 12) (ss' := ss + 72) (by omega) (by omega) ?_
        exact bL_law_1304 C hr hfl hcs hk23 r49.2 l4 (r49.2.2 476 (0 : Int32).toNatClampNeg) (0 : Int64)
    · refine g_keep [true, true, true, true, true, false, false] ?_
      refine g_widen (cs' := cs + 12) (ss' := ss + 72) (by omega) (by omega) ?_
      exact bL_law_1310 C hr hfl hcs hk23 r49.2 l4
  · refine g_iconst (pc := 1284) (v := 0) C dL_law_1284 (by decide) ?_
    exact g_law_f
def fL_law_1243 (L : Nat) (xs : Nat → Int32) (k23 : Sg → Int32 → Option Bool) (σ : Sg) (l4 : Int32) (s1 : Int32) (s2 : Int32) : Option Bool :=
  (fL_show σ s1 s2 476 1).bind fun r48 =>
  if ck (l4 + 1) L then
    if ck (l4 + 2) L then
      if (xs (l4 + 2).toNatClampNeg) = 0 then
        (fL_law_1270 L xs k23 r48.2 l4 r48.1 (xs (l4 + 1).toNatClampNeg) 0)
      else
        (fL_law_1270 L xs k23 r48.2 l4 r48.1 (xs (l4 + 1).toNatClampNeg) 1)
    else none
  else none
theorem bL_law_1243 {X : Xc} {K : Kc} {L b cs ss : Nat} {xs : Nat → Int32} (C : MC X K cL_law 7 RL room_1) (hr : LH X K b L xs) (hfl : X.l.stackTraces = false) (hcs : cs + 12 ≤ 600002 ∧ ss + 72 ≤ 7302232) {k23 : Sg → Int32 → Option Bool} (hk23 : ∀ (σ : Sg) (l4 : Int32), GO X K 7 (lawQ K) (k23 σ l4) σ (cs + 12) (ss + 72) 23 [some (.ref b), some (.ref (X.ad 0)), some (.ref (X.ad 462)), some (.ref (X.ad 476)), some (.int (l4)), none, none] []) (σ : Sg) (l4 : Int32) (s1 : Int32) (s2 : Int32) : GO X K 7 (lawQ K) (fL_law_1243 L xs k23 σ l4 s1 s2) σ (cs + 0) (ss + 0) 1243 [some (.ref b), some (.ref (X.ad 0)), some (.ref (X.ad 462)), some (.ref (X.ad 476)), some (.int (l4)), none, none] [.int (s2), .int (s1), .ref (X.ad 0)] := by
  unfold fL_law_1243
  refine g_aload_n (pc := 1243) (i := 3) C dL_law_1243 rfl rfl ?_
  refine g_callHi (pc := 1244) (As := [.ref (X.ad 0), .int (s1), .int (s2), .ref (X.ad 476)]) C (kL_show X σ s1 s2 476 1 ok_out hfl) q_38_7 q_38_8 q_6_18 q_38_9 hdL_show ⟨Nat.le_of_ble_eq_true rfl, Nat.le_of_ble_eq_true rfl, rfl, rfl, by show _ ≤ 600002; omega, by show _ ≤ 7302232; omega⟩ (Nat.le_of_ble_eq_true rfl) rfl rfl dL_law_1244 (fun r48 _ => ?_)
  refine g_istore (pc := 1247) C dL_law_1247 (Nat.le_of_ble_eq_true rfl) rfl ?_
  refine g_aload_n (pc := 1249) (i := 2) C dL_law_1249 rfl rfl ?_
  refine g_aload_n (pc := 1250) (i := 0) C dL_law_1250 rfl rfl ?_
  refine g_iload (pc := 1251) C dL_law_1251 rfl ?_
  refine g_iconst (pc := 1253) (v := 1) C dL_law_1253 (by decide) ?_
  refine g_iadd (pc := 1254) C dL_law_1254 ?_
  refine g_sld (pc := 1255) C hr dL_law_1255 ?_
  refine g_aload_n (pc := 1256) (i := 0) C dL_law_1256 rfl rfl ?_
  refine g_iload (pc := 1257) C dL_law_1257 rfl ?_
  refine g_iconst (pc := 1259) (v := 2) C dL_law_1259 (by decide) ?_
  refine g_iadd (pc := 1260) C dL_law_1260 ?_
  refine g_sld (pc := 1261) C hr dL_law_1261 ?_
  refine g_if_eq (pc := 1262) (tgt := 1269) C dL_law_1262 rfl ?_ ?_
  · refine g_iconst (pc := 1269) (v := 0) C dL_law_1269 (by decide) ?_
    refine g_keep [true, true, true, true, true, true, false] ?_
    refine g_widen (cs' := cs + 12) (ss' := ss + 72) (by omega) (by omega) ?_
    exact bL_law_1270 C hr hfl hcs hk23 r48.2 l4 r48.1 (xs (l4 + 1).toNatClampNeg) 0
  · refine g_iconst (pc := 1265) (v := 1) C dL_law_1265 (by decide) ?_
    refine g_goto (pc := 1266) (tgt := 1270) C dL_law_1266 rfl ?_
    refine g_keep [true, true, true, true, true, true, false] ?_
    refine g_widen (cs' := cs + 12) (ss' := ss + 72) (by omega) (by omega) ?_
    exact bL_law_1270 C hr hfl hcs hk23 r48.2 l4 r48.1 (xs (l4 + 1).toNatClampNeg) 1
def fL_law_1222 (L : Nat) (xs : Nat → Int32) (k23 : Sg → Int32 → Option Bool) (σ : Sg) (l4 : Int32) : Option Bool :=
  if ck (l4 + 1) L then
    if ck (l4 + 2) L then
      if (xs (l4 + 2).toNatClampNeg) = 0 then
        (fL_law_1243 L xs k23 σ l4 (xs (l4 + 1).toNatClampNeg) 0)
      else
        (fL_law_1243 L xs k23 σ l4 (xs (l4 + 1).toNatClampNeg) 1)
    else none
  else none
theorem bL_law_1222 {X : Xc} {K : Kc} {L b cs ss : Nat} {xs : Nat → Int32} (C : MC X K cL_law 7 RL room_1) (hr : LH X K b L xs) (hfl : X.l.stackTraces = false) (hcs : cs + 12 ≤ 600002 ∧ ss + 72 ≤ 7302232) {k23 : Sg → Int32 → Option Bool} (hk23 : ∀ (σ : Sg) (l4 : Int32), GO X K 7 (lawQ K) (k23 σ l4) σ (cs + 12) (ss + 72) 23 [some (.ref b), some (.ref (X.ad 0)), some (.ref (X.ad 462)), some (.ref (X.ad 476)), some (.int (l4)), none, none] []) (σ : Sg) (l4 : Int32) : GO X K 7 (lawQ K) (fL_law_1222 L xs k23 σ l4) σ (cs + 0) (ss + 0) 1222 [some (.ref b), some (.ref (X.ad 0)), some (.ref (X.ad 462)), some (.ref (X.ad 476)), some (.int (l4)), none, none] [] := by
  unfold fL_law_1222
  refine g_aload_n (pc := 1222) (i := 1) C dL_law_1222 rfl rfl ?_
  refine g_aload_n (pc := 1223) (i := 0) C dL_law_1223 rfl rfl ?_
  refine g_iload (pc := 1224) C dL_law_1224 rfl ?_
  refine g_iconst (pc := 1226) (v := 1) C dL_law_1226 (by decide) ?_
  refine g_iadd (pc := 1227) C dL_law_1227 ?_
  refine g_sld (pc := 1228) C hr dL_law_1228 ?_
  refine g_aload_n (pc := 1229) (i := 0) C dL_law_1229 rfl rfl ?_
  refine g_iload (pc := 1230) C dL_law_1230 rfl ?_
  refine g_iconst (pc := 1232) (v := 2) C dL_law_1232 (by decide) ?_
  refine g_iadd (pc := 1233) C dL_law_1233 ?_
  refine g_sld (pc := 1234) C hr dL_law_1234 ?_
  refine g_if_eq (pc := 1235) (tgt := 1242) C dL_law_1235 rfl ?_ ?_
  · refine g_iconst (pc := 1242) (v := 0) C dL_law_1242 (by decide) ?_
    refine g_keep [true, true, true, true, true, false, false] ?_
    refine g_widen (cs' := cs + 0) (ss' := ss + 0) (by omega) (by omega) ?_
    exact bL_law_1243 C hr hfl hcs hk23 σ l4 (xs (l4 + 1).toNatClampNeg) 0
  · refine g_iconst (pc := 1238) (v := 1) C dL_law_1238 (by decide) ?_
    refine g_goto (pc := 1239) (tgt := 1243) C dL_law_1239 rfl ?_
    refine g_keep [true, true, true, true, true, false, false] ?_
    refine g_widen (cs' := cs + 0) (ss' := ss + 0) (by omega) (by omega) ?_
    exact bL_law_1243 C hr hfl hcs hk23 σ l4 (xs (l4 + 1).toNatClampNeg) 1
def fL_law_1219 (L : Nat) (xs : Nat → Int32) (k23 : Sg → Int32 → Option Bool) (σ : Sg) (l4 : Int32) : Option Bool :=
  (fL_law_2086 L xs k23 σ l4)
theorem bL_law_1219 {X : Xc} {K : Kc} {L b cs ss : Nat} {xs : Nat → Int32} (C : MC X K cL_law 7 RL room_1) (hr : LH X K b L xs) (hfl : X.l.stackTraces = false) (hcs : cs + 12 ≤ 600002 ∧ ss + 72 ≤ 7302232) {k23 : Sg → Int32 → Option Bool} (hk23 : ∀ (σ : Sg) (l4 : Int32), GO X K 7 (lawQ K) (k23 σ l4) σ (cs + 12) (ss + 72) 23 [some (.ref b), some (.ref (X.ad 0)), some (.ref (X.ad 462)), some (.ref (X.ad 476)), some (.int (l4)), none, none] []) (σ : Sg) (l4 : Int32) : GO X K 7 (lawQ K) (fL_law_1219 L xs k23 σ l4) σ (cs + 12) (ss + 72) 1219 [some (.ref b), some (.ref (X.ad 0)), some (.ref (X.ad 462)), some (.ref (X.ad 476)), some (.int (l4)), none, none] [] := by
  unfold fL_law_1219
  refine g_goto (pc := 1219) (tgt := 2086) C dL_law_1219 rfl ?_
  refine g_keep [true, true, true, true, true, false, false] ?_
  refine g_widen (cs' := cs + 12) (ss' := ss + 72) (by omega) (by omega) ?_
  exact bL_law_2086 C hr hfl hcs hk23 σ l4
def fL_law_1166 (L : Nat) (xs : Nat → Int32) (k23 : Sg → Int32 → Option Bool) (σ : Sg) (l4 : Int32) : Option Bool :=
  if ck (l4 + 1) L then
    (fL_takeAway σ (xs (l4 + 1).toNatClampNeg) 476 1).bind fun r51 =>
    if ck (l4 + 1) L then
      (fX9_takeAway r51.2 462 (xs (l4 + 1).toNatClampNeg)).bind fun r52 =>
      (fX9_thrown r52.2 462).bind fun r53 =>
      if r53 = r51.1 then
        if r51.1 = 0 then
          if ck 0 1 then
            if (lg_cmp (r52.2.2 476 (0 : Int32).toNatClampNeg) r52.1.toInt64) = 0 then
              (fL_law_1219 L xs k23 r52.2 l4)
            else
              some false
          else none
        else
          (fL_law_1219 L xs k23 r52.2 l4)
      else
        some false
    else none
  else none
theorem bL_law_1166 {X : Xc} {K : Kc} {L b cs ss : Nat} {xs : Nat → Int32} (C : MC X K cL_law 7 RL room_1) (hr : LH X K b L xs) (hfl : X.l.stackTraces = false) (hcs : cs + 12 ≤ 600002 ∧ ss + 72 ≤ 7302232) {k23 : Sg → Int32 → Option Bool} (hk23 : ∀ (σ : Sg) (l4 : Int32), GO X K 7 (lawQ K) (k23 σ l4) σ (cs + 12) (ss + 72) 23 [some (.ref b), some (.ref (X.ad 0)), some (.ref (X.ad 462)), some (.ref (X.ad 476)), some (.int (l4)), none, none] []) (σ : Sg) (l4 : Int32) : GO X K 7 (lawQ K) (fL_law_1166 L xs k23 σ l4) σ (cs + 0) (ss + 0) 1166 [some (.ref b), some (.ref (X.ad 0)), some (.ref (X.ad 462)), some (.ref (X.ad 476)), some (.int (l4)), none, none] [] := by
  unfold fL_law_1166
  refine g_aload_n (pc := 1166) (i := 1) C dL_law_1166 rfl rfl ?_
  refine g_aload_n (pc := 1167) (i := 0) C dL_law_1167 rfl rfl ?_
  refine g_iload (pc := 1168) C dL_law_1168 rfl ?_
  refine g_iconst (pc := 1170) (v := 1) C dL_law_1170 (by decide) ?_
  refine g_iadd (pc := 1171) C dL_law_1171 ?_
  refine g_sld (pc := 1172) C hr dL_law_1172 ?_
  refine g_aload_n (pc := 1173) (i := 3) C dL_law_1173 rfl rfl ?_
  refine g_callHi (pc := 1174) (As := [.ref (X.ad 0), .int (xs (l4 + 1).toNatClampNeg), .ref (X.ad 476)]) C (kL_takeAway X σ (xs (l4 + 1).toNatClampNeg) 476 1 ok_out hfl) q_37_16 q_37_17 q_6_18 q_37_18 hdL_takeAway ⟨Nat.le_of_ble_eq_true rfl, Nat.le_of_ble_eq_true rfl, rfl, rfl, by show _ ≤ 600002; omega, by show _ ≤ 7302232; omega⟩ (Nat.le_of_ble_eq_true rfl) rfl rfl dL_law_1174 (fun r51 _ => ?_)
  refine g_istore (pc := 1177) C dL_law_1177 (Nat.le_of_ble_eq_true rfl) rfl ?_
  refine g_aload_n (pc := 1179) (i := 2) C dL_law_1179 rfl rfl ?_
  refine g_aload_n (pc := 1180) (i := 0) C dL_law_1180 rfl rfl ?_
  refine g_iload (pc := 1181) C dL_law_1181 rfl ?_
  refine g_iconst (pc := 1183) (v := 1) C dL_law_1183 (by decide) ?_
  refine g_iadd (pc := 1184) C dL_law_1184 ?_
  refine g_sld (pc := 1185) C hr dL_law_1185 ?_
  refine g_callVi (pc := 1186) (As := [.int (xs (l4 + 1).toNatClampNeg)]) C (kX9_takeAway X r51.2 462 (xs (l4 + 1).toNatClampNeg) ok_mo) (blk ok_mo 0 rfl) rfl q_37_23 q_38_0 q_38_1 q_1_5 q_38_2 ⟨rfl, hdX9_takeAway⟩ ⟨Nat.le_of_ble_eq_true rfl, Nat.le_of_ble_eq_true rfl, rfl, rfl⟩ ⟨by show _ ≤ 600002; omega, by show _ ≤ 7302232; omega⟩ (Nat.le_of_ble_eq_true rfl) rfl rfl dL_law_1186 (fun r52 _ => ?_)
  refine g_istore (pc := 1189) C dL_law_1189 (Nat.le_of_ble_eq_true rfl) rfl ?_
  refine g_aload_n (pc := 1191) (i := 2) C dL_law_1191 rfl rfl ?_
  refine g_callVi (pc := 1192) (As := []) C (kX9_thrown X r52.2 462 ok_mo) (blk ok_mo 0 rfl) rfl q_10_23 q_11_0 q_11_1 q_1_5 q_11_2 ⟨rfl, hdX9_thrown⟩ ⟨Nat.le_of_ble_eq_true rfl, Nat.le_of_ble_eq_true rfl, rfl, rfl⟩ ⟨by show _ ≤ 600002; omega, by show _ ≤ 7302232; omega⟩ (Nat.le_of_ble_eq_true rfl) rfl rfl dL_law_1192 (fun r53 _ => ?_)
  refine g_iload (pc := 1195) C dL_law_1195 rfl ?_
  refine g_icmp_eq (pc := 1197) (tgt := 1202) C dL_law_1197 rfl ?_ ?_
  · refine g_iload (pc := 1202) C dL_law_1202 rfl ?_
    refine g_if_ne (pc := 1204) (tgt := 1219) C dL_law_1204 rfl ?_ ?_
    · refine g_aload_n (pc := 1207) (i := 3) C dL_law_1207 rfl rfl ?_
      refine g_iconst (pc := 1208) (v := 0) C dL_law_1208 (by decide) ?_
      refine g_laload (pc := 1209) C ok_out dL_law_1209 ?_
      refine g_iload (pc := 1210) C dL_law_1210 rfl ?_
      refine g_i2l (pc := 1212) C dL_law_1212 ?_
      refine g_lcmp (pc := 1213) C dL_law_1213 ?_
      refine g_if_eq (pc := 1214) (tgt := 1219) C dL_law_1214 rfl ?_ ?_
      · refine g_keep [true, true, true, true, true, false, false] ?_
        refine g_widen (cs' := cs + 12) (ss' := ss + 72) (by omega) (by omega) ?_
        exact bL_law_1219 C hr hfl hcs hk23 r52.2 l4
      · refine g_iconst (pc := 1217) (v := 0) C dL_law_1217 (by decide) ?_
        exact g_law_f
    · refine g_keep [true, true, true, true, true, false, false] ?_
      refine g_widen (cs' := cs + 12) (ss' := ss + 72) (by omega) (by omega) ?_
      exact bL_law_1219 C hr hfl hcs hk23 r52.2 l4
  · refine g_iconst (pc := 1200) (v := 0) C dL_law_1200 (by decide) ?_
    exact g_law_f
def fL_law_1163 (L : Nat) (xs : Nat → Int32) (k23 : Sg → Int32 → Option Bool) (σ : Sg) (l4 : Int32) : Option Bool :=
  (fL_law_2086 L xs k23 σ l4)
theorem bL_law_1163 {X : Xc} {K : Kc} {L b cs ss : Nat} {xs : Nat → Int32} (C : MC X K cL_law 7 RL room_1) (hr : LH X K b L xs) (hfl : X.l.stackTraces = false) (hcs : cs + 12 ≤ 600002 ∧ ss + 72 ≤ 7302232) {k23 : Sg → Int32 → Option Bool} (hk23 : ∀ (σ : Sg) (l4 : Int32), GO X K 7 (lawQ K) (k23 σ l4) σ (cs + 12) (ss + 72) 23 [some (.ref b), some (.ref (X.ad 0)), some (.ref (X.ad 462)), some (.ref (X.ad 476)), some (.int (l4)), none, none] []) (σ : Sg) (l4 : Int32) : GO X K 7 (lawQ K) (fL_law_1163 L xs k23 σ l4) σ (cs + 12) (ss + 72) 1163 [some (.ref b), some (.ref (X.ad 0)), some (.ref (X.ad 462)), some (.ref (X.ad 476)), some (.int (l4)), none, none] [] := by
  unfold fL_law_1163
  refine g_goto (pc := 1163) (tgt := 2086) C dL_law_1163 rfl ?_
  refine g_keep [true, true, true, true, true, false, false] ?_
  refine g_widen (cs' := cs + 12) (ss' := ss + 72) (by omega) (by omega) ?_
  exact bL_law_2086 C hr hfl hcs hk23 σ l4
def fL_law_1062 (L : Nat) (xs : Nat → Int32) (k23 : Sg → Int32 → Option Bool) (σ : Sg) (l4 : Int32) : Option Bool :=
  if ck (l4 + 1) L then
    if ck (l4 + 2) L then
      if ck (l4 + 3) L then
        if ck (l4 + 4) L then
          if ck (l4 + 5) L then
            (fL_floatAt σ (xs (l4 + 1).toNatClampNeg) (xs (l4 + 2).toNatClampNeg) (xs (l4 + 3).toNatClampNeg) (xs (l4 + 4).toNatClampNeg) (xs (l4 + 5).toNatClampNeg) 476 1).bind fun r54 =>
            if ck (l4 + 1) L then
              if ck (l4 + 2) L then
                if ck (l4 + 3) L then
                  if ck (l4 + 4) L then
                    if ck (l4 + 5) L then
                      (fX9_floatAt r54.2 462 (xs (l4 + 1).toNatClampNeg) (xs (l4 + 2).toNatClampNeg) (xs (l4 + 3).toNatClampNeg) (xs (l4 + 4).toNatClampNeg) (xs (l4 + 5).toNatClampNeg)).bind fun r55 =>
                      (fX9_thrown r55.2 462).bind fun r56 =>
                      if r56 = r54.1 then
                        if r54.1 = 0 then
                          if ck 0 1 then
                            if (lg_cmp (r55.2.2 476 (0 : Int32).toNatClampNeg) r55.1.toInt64) = 0 then
                              (fL_law_1163 L xs k23 r55.2 l4)
                            else
                              some false
                          else none
                        else
                          (fL_law_1163 L xs k23 r55.2 l4)
                      else
                        some false
                    else none
                  else none
                else none
              else none
            else none
          else none
        else none
      else none
    else none
  else none
theorem bL_law_1062 {X : Xc} {K : Kc} {L b cs ss : Nat} {xs : Nat → Int32} (C : MC X K cL_law 7 RL room_1) (hr : LH X K b L xs) (hfl : X.l.stackTraces = false) (hcs : cs + 12 ≤ 600002 ∧ ss + 72 ≤ 7302232) {k23 : Sg → Int32 → Option Bool} (hk23 : ∀ (σ : Sg) (l4 : Int32), GO X K 7 (lawQ K) (k23 σ l4) σ (cs + 12) (ss + 72) 23 [some (.ref b), some (.ref (X.ad 0)), some (.ref (X.ad 462)), some (.ref (X.ad 476)), some (.int (l4)), none, none] []) (σ : Sg) (l4 : Int32) : GO X K 7 (lawQ K) (fL_law_1062 L xs k23 σ l4) σ (cs + 0) (ss + 0) 1062 [some (.ref b), some (.ref (X.ad 0)), some (.ref (X.ad 462)), some (.ref (X.ad 476)), some (.int (l4)), none, none] [] := by
  unfold fL_law_1062
  refine g_aload_n (pc := 1062) (i := 1) C dL_law_1062 rfl rfl ?_
  refine g_aload_n (pc := 1063) (i := 0) C dL_law_1063 rfl rfl ?_
  refine g_iload (pc := 1064) C dL_law_1064 rfl ?_
  refine g_iconst (pc := 1066) (v := 1) C dL_law_1066 (by decide) ?_
  refine g_iadd (pc := 1067) C dL_law_1067 ?_
  refine g_sld (pc := 1068) C hr dL_law_1068 ?_
  refine g_aload_n (pc := 1069) (i := 0) C dL_law_1069 rfl rfl ?_
  refine g_iload (pc := 1070) C dL_law_1070 rfl ?_
  refine g_iconst (pc := 1072) (v := 2) C dL_law_1072 (by decide) ?_
  refine g_iadd (pc := 1073) C dL_law_1073 ?_
  refine g_sld (pc := 1074) C hr dL_law_1074 ?_
  refine g_aload_n (pc := 1075) (i := 0) C dL_law_1075 rfl rfl ?_
  refine g_iload (pc := 1076) C dL_law_1076 rfl ?_
  refine g_iconst (pc := 1078) (v := 3) C dL_law_1078 (by decide) ?_
  refine g_iadd (pc := 1079) C dL_law_1079 ?_
  refine g_sld (pc := 1080) C hr dL_law_1080 ?_
  refine g_aload_n (pc := 1081) (i := 0) C dL_law_1081 rfl rfl ?_
  refine g_iload (pc := 1082) C dL_law_1082 rfl ?_
  refine g_iconst (pc := 1084) (v := 4) C dL_law_1084 (by decide) ?_
  refine g_iadd (pc := 1085) C dL_law_1085 ?_
  refine g_sld (pc := 1086) C hr dL_law_1086 ?_
  refine g_aload_n (pc := 1087) (i := 0) C dL_law_1087 rfl rfl ?_
  refine g_iload (pc := 1088) C dL_law_1088 rfl ?_
  refine g_iconst (pc := 1090) (v := 5) C dL_law_1090 (by decide) ?_
  refine g_iadd (pc := 1091) C dL_law_1091 ?_
  refine g_sld (pc := 1092) C hr dL_law_1092 ?_
  refine g_aload_n (pc := 1093) (i := 3) C dL_law_1093 rfl rfl ?_
  refine g_callHi (pc := 1094) (As := [.ref (X.ad 0), .int (xs (l4 + 1).toNatClampNeg), .int (xs (l4 + 2).toNatClampNeg), .int (xs (l4 + 3).toNatClampNeg), .int (xs (l4 + 4).toNatClampNeg), .int (xs (l4 + 5).toNatClampNeg), .ref (X.ad 476)]) C (kL_floatAt X σ (xs (l4 + 1).toNatClampNeg) (xs (l4 + 2).toNatClampNeg) (xs (l4 + 3).toNatClampNeg) (xs (l4 + 4).toNatClampNeg) (xs (l4 + 5).toNatClampNeg) 476 1 ok_out hfl) q_36_21 q_36_22 q_6_18 q_36_23 hdL_floatAt ⟨Nat.le_of_ble_eq_true rfl, Nat.le_of_ble_eq_true rfl, rfl, rfl, by show _ ≤ 600002; omega, by show _ ≤ 7302232; omega⟩ (Nat.le_of_ble_eq_true rfl) rfl rfl dL_law_1094 (fun r54 _ => ?_)
  refine g_istore (pc := 1097) C dL_law_1097 (Nat.le_of_ble_eq_true rfl) rfl ?_
  refine g_aload_n (pc := 1099) (i := 2) C dL_law_1099 rfl rfl ?_
  refine g_aload_n (pc := 1100) (i := 0) C dL_law_1100 rfl rfl ?_
  refine g_iload (pc := 1101) C dL_law_1101 rfl ?_
  refine g_iconst (pc := 1103) (v := 1) C dL_law_1103 (by decide) ?_
  refine g_iadd (pc := 1104) C dL_law_1104 ?_
  refine g_sld (pc := 1105) C hr dL_law_1105 ?_
  refine g_aload_n (pc := 1106) (i := 0) C dL_law_1106 rfl rfl ?_
  refine g_iload (pc := 1107) C dL_law_1107 rfl ?_
  refine g_iconst (pc := 1109) (v := 2) C dL_law_1109 (by decide) ?_
  refine g_iadd (pc := 1110) C dL_law_1110 ?_
  refine g_sld (pc := 1111) C hr dL_law_1111 ?_
  refine g_aload_n (pc := 1112) (i := 0) C dL_law_1112 rfl rfl ?_
  refine g_iload (pc := 1113) C dL_law_1113 rfl ?_
  refine g_iconst (pc := 1115) (v := 3) C dL_law_1115 (by decide) ?_
  refine g_iadd (pc := 1116) C dL_law_1116 ?_
  refine g_sld (pc := 1117) C hr dL_law_1117 ?_
  refine g_aload_n (pc := 1118) (i := 0) C dL_law_1118 rfl rfl ?_
  refine g_iload (pc := 1119) C dL_law_1119 rfl ?_
  refine g_iconst (pc := 1121) (v := 4) C dL_law_1121 (by decide) ?_
  refine g_iadd (pc := 1122) C dL_law_1122 ?_
  refine g_sld (pc := 1123) C hr dL_law_1123 ?_
  refine g_aload_n (pc := 1124) (i := 0) C dL_law_1124 rfl rfl ?_
  refine g_iload (pc := 1125) C dL_law_1125 rfl ?_
  refine g_iconst (pc := 1127) (v := 5) C dL_law_1127 (by decide) ?_
  refine g_iadd (pc := 1128) C dL_law_1128 ?_
  refine g_sld (pc := 1129) C hr dL_law_1129 ?_
  refine g_callVi (pc := 1130) (As := [.int (xs (l4 + 1).toNatClampNeg), .int (xs (l4 + 2).toNatClampNeg), .int (xs (l4 + 3).toNatClampNeg), .int (xs (l4 + 4).toNatClampNeg), .int (xs (l4 + 5).toNatClampNeg)]) C (kX9_floatAt X r54.2 462 (xs (l4 + 1).toNatClampNeg) (xs (l4 + 2).toNatClampNeg) (xs (l4 + 3).toNatClampNeg) (xs (l4 + 4).toNatClampNeg) (xs (l4 + 5).toNatClampNeg) ok_mo) (blk ok_mo 0 rfl) rfl q_37_12 q_37_13 q_37_14 q_1_5 q_37_15 ⟨rfl, hdX9_floatAt⟩ ⟨Nat.le_of_ble_eq_true rfl, Nat.le_of_ble_eq_true rfl, rfl, rfl⟩ ⟨by show _ ≤ 600002; omega, by show _ ≤ 7302232; omega⟩ (Nat.le_of_ble_eq_true rfl) rfl rfl dL_law_1130 (fun r55 _ => ?_)
  refine g_istore (pc := 1133) C dL_law_1133 (Nat.le_of_ble_eq_true rfl) rfl ?_
  refine g_aload_n (pc := 1135) (i := 2) C dL_law_1135 rfl rfl ?_
  refine g_callVi (pc := 1136) (As := []) C (kX9_thrown X r55.2 462 ok_mo) (blk ok_mo 0 rfl) rfl q_10_23 q_11_0 q_11_1 q_1_5 q_11_2 ⟨rfl, hdX9_thrown⟩ ⟨Nat.le_of_ble_eq_true rfl, Nat.le_of_ble_eq_true rfl, rfl, rfl⟩ ⟨by show _ ≤ 600002; omega, by show _ ≤ 7302232; omega⟩ (Nat.le_of_ble_eq_true rfl) rfl rfl dL_law_1136 (fun r56 _ => ?_)
  refine g_iload (pc := 1139) C dL_law_1139 rfl ?_
  refine g_icmp_eq (pc := 1141) (tgt := 1146) C dL_law_1141 rfl ?_ ?_
  · refine g_iload (pc := 1146) C dL_law_1146 rfl ?_
    refine g_if_ne (pc := 1148) (tgt := 1163) C dL_law_1148 rfl ?_ ?_
    · refine g_aload_n (pc := 1151) (i := 3) C dL_law_1151 rfl rfl ?_
      refine g_iconst (pc := 1152) (v := 0) C dL_law_1152 (by decide) ?_
      refine g_laload (pc := 1153) C ok_out dL_law_1153 ?_
      refine g_iload (pc := 1154) C dL_law_1154 rfl ?_
      refine g_i2l (pc := 1156) C dL_law_1156 ?_
      refine g_lcmp (pc := 1157) C dL_law_1157 ?_
      refine g_if_eq (pc := 1158) (tgt := 1163) C dL_law_1158 rfl ?_ ?_
      · refine g_keep [true, true, true, true, true, false, false] ?_
        refine g_widen (cs' := cs + 12) (ss' := ss + 72) (by omega) (by omega) ?_
        exact bL_law_1163 C hr hfl hcs hk23 r55.2 l4
      · refine g_iconst (pc := 1161) (v := 0) C dL_law_1161 (by decide) ?_
        exact g_law_f
    · refine g_keep [true, true, true, true, true, false, false] ?_
      refine g_widen (cs' := cs + 12) (ss' := ss + 72) (by omega) (by omega) ?_
      exact bL_law_1163 C hr hfl hcs hk23 r55.2 l4
  · refine g_iconst (pc := 1144) (v := 0) C dL_law_1144 (by decide) ?_
    exact g_law_f
def fL_law_1059 (L : Nat) (xs : Nat → Int32) (k23 : Sg → Int32 → Option Bool) (σ : Sg) (l4 : Int32) : Option Bool :=
  (fL_law_2086 L xs k23 σ l4)
theorem bL_law_1059 {X : Xc} {K : Kc} {L b cs ss : Nat} {xs : Nat → Int32} (C : MC X K cL_law 7 RL room_1) (hr : LH X K b L xs) (hfl : X.l.stackTraces = false) (hcs : cs + 12 ≤ 600002 ∧ ss + 72 ≤ 7302232) {k23 : Sg → Int32 → Option Bool} (hk23 : ∀ (σ : Sg) (l4 : Int32), GO X K 7 (lawQ K) (k23 σ l4) σ (cs + 12) (ss + 72) 23 [some (.ref b), some (.ref (X.ad 0)), some (.ref (X.ad 462)), some (.ref (X.ad 476)), some (.int (l4)), none, none] []) (σ : Sg) (l4 : Int32) : GO X K 7 (lawQ K) (fL_law_1059 L xs k23 σ l4) σ (cs + 12) (ss + 72) 1059 [some (.ref b), some (.ref (X.ad 0)), some (.ref (X.ad 462)), some (.ref (X.ad 476)), some (.int (l4)), none, none] [] := by
  unfold fL_law_1059
  refine g_goto (pc := 1059) (tgt := 2086) C dL_law_1059 rfl ?_
  refine g_keep [true, true, true, true, true, false, false] ?_
  refine g_widen (cs' := cs + 12) (ss' := ss + 72) (by omega) (by omega) ?_
  exact bL_law_2086 C hr hfl hcs hk23 σ l4
def fL_law_1006 (L : Nat) (xs : Nat → Int32) (k23 : Sg → Int32 → Option Bool) (σ : Sg) (l4 : Int32) : Option Bool :=
  if ck (l4 + 1) L then
    (fL_start σ (xs (l4 + 1).toNatClampNeg) 476 1).bind fun r57 =>
    if ck (l4 + 1) L then
      (fX9_start r57.2 462 (xs (l4 + 1).toNatClampNeg)).bind fun r58 =>
      (fX9_thrown r58.2 462).bind fun r59 =>
      if r59 = r57.1 then
        if r57.1 = 0 then
          if ck 0 1 then
            if (lg_cmp (r58.2.2 476 (0 : Int32).toNatClampNeg) r58.1.toInt64) = 0 then
              (fL_law_1059 L xs k23 r58.2 l4)
            else
              some false
          else none
        else
          (fL_law_1059 L xs k23 r58.2 l4)
      else
        some false
    else none
  else none
theorem bL_law_1006 {X : Xc} {K : Kc} {L b cs ss : Nat} {xs : Nat → Int32} (C : MC X K cL_law 7 RL room_1) (hr : LH X K b L xs) (hfl : X.l.stackTraces = false) (hcs : cs + 12 ≤ 600002 ∧ ss + 72 ≤ 7302232) {k23 : Sg → Int32 → Option Bool} (hk23 : ∀ (σ : Sg) (l4 : Int32), GO X K 7 (lawQ K) (k23 σ l4) σ (cs + 12) (ss + 72) 23 [some (.ref b), some (.ref (X.ad 0)), some (.ref (X.ad 462)), some (.ref (X.ad 476)), some (.int (l4)), none, none] []) (σ : Sg) (l4 : Int32) : GO X K 7 (lawQ K) (fL_law_1006 L xs k23 σ l4) σ (cs + 0) (ss + 0) 1006 [some (.ref b), some (.ref (X.ad 0)), some (.ref (X.ad 462)), some (.ref (X.ad 476)), some (.int (l4)), none, none] [] := by
  unfold fL_law_1006
  refine g_aload_n (pc := 1006) (i := 1) C dL_law_1006 rfl rfl ?_
  refine g_aload_n (pc := 1007) (i := 0) C dL_law_1007 rfl rfl ?_
  refine g_iload (pc := 1008) C dL_law_1008 rfl ?_
  refine g_iconst (pc := 1010) (v := 1) C dL_law_1010 (by decide) ?_
  refine g_iadd (pc := 1011) C dL_law_1011 ?_
  refine g_sld (pc := 1012) C hr dL_law_1012 ?_
  refine g_aload_n (pc := 1013) (i := 3) C dL_law_1013 rfl rfl ?_
  refine g_callHi (pc := 1014) (As := [.ref (X.ad 0), .int (xs (l4 + 1).toNatClampNeg), .ref (X.ad 476)]) C (kL_start X σ (xs (l4 + 1).toNatClampNeg) 476 1 ok_out hfl) q_35_22 q_35_23 q_6_18 q_36_0 hdL_start ⟨Nat.le_of_ble_eq_true rfl, Nat.le_of_ble_eq_true rfl, rfl, rfl, by show _ ≤ 600002; omega, by show _ ≤ 7302232; omega⟩ (Nat.le_of_ble_eq_true rfl) rfl rfl dL_law_1014 (fun r57 _ => ?_)
  refine g_istore (pc := 1017) C dL_law_1017 (Nat.le_of_ble_eq_true rfl) rfl ?_
  refine g_aload_n (pc := 1019) (i := 2) C dL_law_1019 rfl rfl ?_
  refine g_aload_n (pc := 1020) (i := 0) C dL_law_1020 rfl rfl ?_
  refine g_iload (pc := 1021) C dL_law_1021 rfl ?_
  refine g_iconst (pc := 1023) (v := 1) C dL_law_1023 (by decide) ?_
  refine g_iadd (pc := 1024) C dL_law_1024 ?_
  refine g_sld (pc := 1025) C hr dL_law_1025 ?_
  refine g_callVi (pc := 1026) (As := [.int (xs (l4 + 1).toNatClampNeg)]) C (kX9_start X r57.2 462 (xs (l4 + 1).toNatClampNeg) ok_mo) (blk ok_mo 0 rfl) rfl q_36_13 q_36_14 q_36_15 q_1_5 q_36_16 ⟨rfl, hdX9_start⟩ ⟨Nat.le_of_ble_eq_true rfl, Nat.le_of_ble_eq_true rfl, rfl, rfl⟩ ⟨by show _ ≤ 600002; omega, by show _ ≤ 7302232; omega⟩ (Nat.le_of_ble_eq_true rfl) rfl rfl dL_law_1026 (fun r58 _ => ?_)
  refine g_istore (pc := 1029) C dL_law_1029 (Nat.le_of_ble_eq_true rfl) rfl ?_
  refine g_aload_n (pc := 1031) (i := 2) C dL_law_1031 rfl rfl ?_
  refine g_callVi (pc := 1032) (As := []) C (kX9_thrown X r58.2 462 ok_mo) (blk ok_mo 0 rfl) rfl q_10_23 q_11_0 q_11_1 q_1_5 q_11_2 ⟨rfl, hdX9_thrown⟩ ⟨Nat.le_of_ble_eq_true rfl, Nat.le_of_ble_eq_true rfl, rfl, rfl⟩ ⟨by show _ ≤ 600002; omega, by show _ ≤ 7302232; omega⟩ (Nat.le_of_ble_eq_true rfl) rfl rfl dL_law_1032 (fun r59 _ => ?_)
  refine g_iload (pc := 1035) C dL_law_1035 rfl ?_
  refine g_icmp_eq (pc := 1037) (tgt := 1042) C dL_law_1037 rfl ?_ ?_
  · refine g_iload (pc := 1042) C dL_law_1042 rfl ?_
    refine g_if_ne (pc := 1044) (tgt := 1059) C dL_law_1044 rfl ?_ ?_
    · refine g_aload_n (pc := 1047) (i := 3) C dL_law_1047 rfl rfl ?_
      refine g_iconst (pc := 1048) (v := 0) C dL_law_1048 (by decide) ?_
      refine g_laload (pc := 1049) C ok_out dL_law_1049 ?_
      refine g_iload (pc := 1050) C dL_law_1050 rfl ?_
      refine g_i2l (pc := 1052) C dL_law_1052 ?_
      refine g_lcmp (pc := 1053) C dL_law_1053 ?_
      refine g_if_eq (pc := 1054) (tgt := 1059) C dL_law_1054 rfl ?_ ?_
      · refine g_keep [true, true, true, true, true, false, false] ?_
        refine g_widen (cs' := cs + 12) (ss' := ss + 72) (by omega) (by omega) ?_
        exact bL_law_1059 C hr hfl hcs hk23 r58.2 l4
      · refine g_iconst (pc := 1057) (v := 0) C dL_law_1057 (by decide) ?_
        exact g_law_f
    · refine g_keep [true, true, true, true, true, false, false] ?_
      refine g_widen (cs' := cs + 12) (ss' := ss + 72) (by omega) (by omega) ?_
      exact bL_law_1059 C hr hfl hcs hk23 r58.2 l4
  · refine g_iconst (pc := 1040) (v := 0) C dL_law_1040 (by decide) ?_
    exact g_law_f
def fL_law_1003 (L : Nat) (xs : Nat → Int32) (k23 : Sg → Int32 → Option Bool) (σ : Sg) (l4 : Int32) : Option Bool :=
  (fL_law_2086 L xs k23 σ l4)
theorem bL_law_1003 {X : Xc} {K : Kc} {L b cs ss : Nat} {xs : Nat → Int32} (C : MC X K cL_law 7 RL room_1) (hr : LH X K b L xs) (hfl : X.l.stackTraces = false) (hcs : cs + 12 ≤ 600002 ∧ ss + 72 ≤ 7302232) {k23 : Sg → Int32 → Option Bool} (hk23 : ∀ (σ : Sg) (l4 : Int32), GO X K 7 (lawQ K) (k23 σ l4) σ (cs + 12) (ss + 72) 23 [some (.ref b), some (.ref (X.ad 0)), some (.ref (X.ad 462)), some (.ref (X.ad 476)), some (.int (l4)), none, none] []) (σ : Sg) (l4 : Int32) : GO X K 7 (lawQ K) (fL_law_1003 L xs k23 σ l4) σ (cs + 12) (ss + 72) 1003 [some (.ref b), some (.ref (X.ad 0)), some (.ref (X.ad 462)), some (.ref (X.ad 476)), some (.int (l4)), none, none] [] := by
  unfold fL_law_1003
  refine g_goto (pc := 1003) (tgt := 2086) C dL_law_1003 rfl ?_
  refine g_keep [true, true, true, true, true, false, false] ?_
  refine g_widen (cs' := cs + 12) (ss' := ss + 72) (by omega) (by omega) ?_
  exact bL_law_2086 C hr hfl hcs hk23 σ l4
def fL_law_926 (L : Nat) (xs : Nat → Int32) (k23 : Sg → Int32 → Option Bool) (σ : Sg) (l4 : Int32) : Option Bool :=
  if ck (l4 + 1) L then
    if ck (l4 + 2) L then
      if ck (l4 + 3) L then
        (fL_dock σ (xs (l4 + 1).toNatClampNeg) (xs (l4 + 2).toNatClampNeg) (xs (l4 + 3).toNatClampNeg) 476 1).bind fun r60 =>
        if ck (l4 + 1) L then
          if ck (l4 + 2) L then
            if ck (l4 + 3) L then
              (fX9_dock r60.2 462 (xs (l4 + 1).toNatClampNeg) (xs (l4 + 2).toNatClampNeg) (xs (l4 + 3).toNatClampNeg)).bind fun r61 =>
              (fX9_thrown r61.2 462).bind fun r62 =>
              if r62 = r60.1 then
                if r60.1 = 0 then
                  if ck 0 1 then
                    if (lg_cmp (r61.2.2 476 (0 : Int32).toNatClampNeg) r61.1.toInt64) = 0 then
                      (fL_law_1003 L xs k23 r61.2 l4)
                    else
                      some false
                  else none
                else
                  (fL_law_1003 L xs k23 r61.2 l4)
              else
                some false
            else none
          else none
        else none
      else none
    else none
  else none
theorem bL_law_926 {X : Xc} {K : Kc} {L b cs ss : Nat} {xs : Nat → Int32} (C : MC X K cL_law 7 RL room_1) (hr : LH X K b L xs) (hfl : X.l.stackTraces = false) (hcs : cs + 12 ≤ 600002 ∧ ss + 72 ≤ 7302232) {k23 : Sg → Int32 → Option Bool} (hk23 : ∀ (σ : Sg) (l4 : Int32), GO X K 7 (lawQ K) (k23 σ l4) σ (cs + 12) (ss + 72) 23 [some (.ref b), some (.ref (X.ad 0)), some (.ref (X.ad 462)), some (.ref (X.ad 476)), some (.int (l4)), none, none] []) (σ : Sg) (l4 : Int32) : GO X K 7 (lawQ K) (fL_law_926 L xs k23 σ l4) σ (cs + 0) (ss + 0) 926 [some (.ref b), some (.ref (X.ad 0)), some (.ref (X.ad 462)), some (.ref (X.ad 476)), some (.int (l4)), none, none] [] := by
  unfold fL_law_926
  refine g_aload_n (pc := 926) (i := 1) C dL_law_926 rfl rfl ?_
  refine g_aload_n (pc := 927) (i := 0) C dL_law_927 rfl rfl ?_
  refine g_iload (pc := 928) C dL_law_928 rfl ?_
  refine g_iconst (pc := 930) (v := 1) C dL_law_930 (by decide) ?_
  refine g_iadd (pc := 931) C dL_law_931 ?_
  refine g_sld (pc := 932) C hr dL_law_932 ?_
  refine g_aload_n (pc := 933) (i := 0) C dL_law_933 rfl rfl ?_
  refine g_iload (pc := 934) C dL_law_934 rfl ?_
  refine g_iconst (pc := 936) (v := 2) C dL_law_936 (by decide) ?_
  refine g_iadd (pc := 937) C dL_law_937 ?_
  refine g_sld (pc := 938) C hr dL_law_938 ?_
  refine g_aload_n (pc := 939) (i := 0) C dL_law_939 rfl rfl ?_
  refine g_iload (pc := 940) C dL_law_940 rfl ?_
  refine g_iconst (pc := 942) (v := 3) C dL_law_942 (by decide) ?_
  refine g_iadd (pc := 943) C dL_law_943 ?_
  refine g_sld (pc := 944) C hr dL_law_944 ?_
  refine g_aload_n (pc := 945) (i := 3) C dL_law_945 rfl rfl ?_
  refine g_callHi (pc := 946) (As := [.ref (X.ad 0), .int (xs (l4 + 1).toNatClampNeg), .int (xs (l4 + 2).toNatClampNeg), .int (xs (l4 + 3).toNatClampNeg), .ref (X.ad 476)]) C (kL_dock X σ (xs (l4 + 1).toNatClampNeg) (xs (l4 + 2).toNatClampNeg) (xs (l4 + 3).toNatClampNeg) 476 1 ok_out hfl) q_33_11 q_33_12 q_6_18 q_33_13 hdL_dock ⟨Nat.le_of_ble_eq_true rfl, Nat.le_of_ble_eq_true rfl, rfl, rfl, by show _ ≤ 600002; omega, by show _ ≤ 7302232; omega⟩ (Nat.le_of_ble_eq_true rfl) rfl rfl dL_law_946 (fun r60 _ => ?_)
  refine g_istore (pc := 949) C dL_law_949 (Nat.le_of_ble_eq_true rfl) rfl ?_
  refine g_aload_n (pc := 951) (i := 2) C dL_law_951 rfl rfl ?_
  refine g_aload_n (pc := 952) (i := 0) C dL_law_952 rfl rfl ?_
  refine g_iload (pc := 953) C dL_law_953 rfl ?_
  refine g_iconst (pc := 955) (v := 1) C dL_law_955 (by decide) ?_
  refine g_iadd (pc := 956) C dL_law_956 ?_
  refine g_sld (pc := 957) C hr dL_law_957 ?_
  refine g_aload_n (pc := 958) (i := 0) C dL_law_958 rfl rfl ?_
  refine g_iload (pc := 959) C dL_law_959 rfl ?_
  refine g_iconst (pc := 961) (v := 2) C dL_law_961 (by decide) ?_
  refine g_iadd (pc := 962) C dL_law_962 ?_
  refine g_sld (pc := 963) C hr dL_law_963 ?_
  refine g_aload_n (pc := 964) (i := 0) C dL_law_964 rfl rfl ?_
  refine g_iload (pc := 965) C dL_law_965 rfl ?_
  refine g_iconst (pc := 967) (v := 3) C dL_law_967 (by decide) ?_
  refine g_iadd (pc := 968) C dL_law_968 ?_
  refine g_sld (pc := 969) C hr dL_law_969 ?_
  refine g_callVi (pc := 970) (As := [.int (xs (l4 + 1).toNatClampNeg), .int (xs (l4 + 2).toNatClampNeg), .int (xs (l4 + 3).toNatClampNeg)]) C (kX9_dock X r60.2 462 (xs (l4 + 1).toNatClampNeg) (xs (l4 + 2).toNatClampNeg) (xs (l4 + 3).toNatClampNeg) ok_mo) (blk ok_mo 0 rfl) rfl q_34_22 q_34_23 q_35_0 q_1_5 q_35_1 ⟨rfl, hdX9_dock⟩ ⟨Nat.le_of_ble_eq_true rfl, Nat.le_of_ble_eq_true rfl, rfl, rfl⟩ ⟨by show _ ≤ 600002; omega, by show _ ≤ 7302232; omega⟩ (Nat.le_of_ble_eq_true rfl) rfl rfl dL_law_970 (fun r61 _ => ?_)
  refine g_istore (pc := 973) C dL_law_973 (Nat.le_of_ble_eq_true rfl) rfl ?_
  refine g_aload_n (pc := 975) (i := 2) C dL_law_975 rfl rfl ?_
  refine g_callVi (pc := 976) (As := []) C (kX9_thrown X r61.2 462 ok_mo) (blk ok_mo 0 rfl) rfl q_10_23 q_11_0 q_11_1 q_1_5 q_11_2 ⟨rfl, hdX9_thrown⟩ ⟨Nat.le_of_ble_eq_true rfl, Nat.le_of_ble_eq_true rfl, rfl, rfl⟩ ⟨by show _ ≤ 600002; omega, by show _ ≤ 7302232; omega⟩ (Nat.le_of_ble_eq_true rfl) rfl rfl dL_law_976 (fun r62 _ => ?_)
  refine g_iload (pc := 979) C dL_law_979 rfl ?_
  refine g_icmp_eq (pc := 981) (tgt := 986) C dL_law_981 rfl ?_ ?_
  · refine g_iload (pc := 986) C dL_law_986 rfl ?_
    refine g_if_ne (pc := 988) (tgt := 1003) C dL_law_988 rfl ?_ ?_
    · refine g_aload_n (pc := 991) (i := 3) C dL_law_991 rfl rfl ?_
      refine g_iconst (pc := 992) (v := 0) C dL_law_992 (by decide) ?_
      refine g_laload (pc := 993) C ok_out dL_law_993 ?_
      refine g_iload (pc := 994) C dL_law_994 rfl ?_
      refine g_i2l (pc := 996) C dL_law_996 ?_
      refine g_lcmp (pc := 997) C dL_law_997 ?_
      refine g_if_eq (pc := 998) (tgt := 1003) C dL_law_998 rfl ?_ ?_
      · refine g_keep [true, true, true, true, true, false, false] ?_
        refine g_widen (cs' := cs + 12) (ss' := ss + 72) (by omega) (by omega) ?_
        exact bL_law_1003 C hr hfl hcs hk23 r61.2 l4
      · refine g_iconst (pc := 1001) (v := 0) C dL_law_1001 (by decide) ?_
        exact g_law_f
    · refine g_keep [true, true, true, true, true, false, false] ?_
      refine g_widen (cs' := cs + 12) (ss' := ss + 72) (by omega) (by omega) ?_
      exact bL_law_1003 C hr hfl hcs hk23 r61.2 l4
  · refine g_iconst (pc := 984) (v := 0) C dL_law_984 (by decide) ?_
    exact g_law_f
def fL_law_901 (L : Nat) (xs : Nat → Int32) (k23 : Sg → Int32 → Option Bool) (σ : Sg) (l4 : Int32) : Option Bool :=
  if ck (l4 + 1) L then
    (fX8_floating σ (xs (l4 + 1).toNatClampNeg)).bind fun r63 =>
    if ck (l4 + 1) L then
      (fX9_floating σ 462 (xs (l4 + 1).toNatClampNeg)).bind fun r64 =>
      if r63 = r64.1 then
        (fL_law_2086 L xs k23 r64.2 l4)
      else
        some false
    else none
  else none
theorem bL_law_901 {X : Xc} {K : Kc} {L b cs ss : Nat} {xs : Nat → Int32} (C : MC X K cL_law 7 RL room_1) (hr : LH X K b L xs) (hfl : X.l.stackTraces = false) (hcs : cs + 12 ≤ 600002 ∧ ss + 72 ≤ 7302232) {k23 : Sg → Int32 → Option Bool} (hk23 : ∀ (σ : Sg) (l4 : Int32), GO X K 7 (lawQ K) (k23 σ l4) σ (cs + 12) (ss + 72) 23 [some (.ref b), some (.ref (X.ad 0)), some (.ref (X.ad 462)), some (.ref (X.ad 476)), some (.int (l4)), none, none] []) (σ : Sg) (l4 : Int32) : GO X K 7 (lawQ K) (fL_law_901 L xs k23 σ l4) σ (cs + 0) (ss + 0) 901 [some (.ref b), some (.ref (X.ad 0)), some (.ref (X.ad 462)), some (.ref (X.ad 476)), some (.int (l4)), none, none] [] := by
  unfold fL_law_901
  refine g_aload_n (pc := 901) (i := 1) C dL_law_901 rfl rfl ?_
  refine g_aload_n (pc := 902) (i := 0) C dL_law_902 rfl rfl ?_
  refine g_iload (pc := 903) C dL_law_903 rfl ?_
  refine g_iconst (pc := 905) (v := 1) C dL_law_905 (by decide) ?_
  refine g_iadd (pc := 906) C dL_law_906 ?_
  refine g_sld (pc := 907) C hr dL_law_907 ?_
  refine g_callVi (pc := 908) (As := [.int (xs (l4 + 1).toNatClampNeg)]) C (kX8_floating X σ (xs (l4 + 1).toNatClampNeg)) ok_dl rfl q_32_23 q_33_0 q_33_1 q_1_2 q_33_2 ⟨rfl, hdX8_floating⟩ ⟨Nat.le_of_ble_eq_true rfl, Nat.le_of_ble_eq_true rfl, rfl, rfl⟩ ⟨by show _ ≤ 600002; omega, by show _ ≤ 7302232; omega⟩ (Nat.le_of_ble_eq_true rfl) rfl rfl dL_law_908 (fun r63 _ => ?_)
  refine g_aload_n (pc := 911) (i := 2) C dL_law_911 rfl rfl ?_
  refine g_aload_n (pc := 912) (i := 0) C dL_law_912 rfl rfl ?_
  refine g_iload (pc := 913) C dL_law_913 rfl ?_
  refine g_iconst (pc := 915) (v := 1) C dL_law_915 (by decide) ?_
  refine g_iadd (pc := 916) C dL_law_916 ?_
  refine g_sld (pc := 917) C hr dL_law_917 ?_
  refine g_callVi (pc := 918) (As := [.int (xs (l4 + 1).toNatClampNeg)]) C (kX9_floating X σ 462 (xs (l4 + 1).toNatClampNeg) ok_mo) (blk ok_mo 0 rfl) rfl q_33_7 q_33_8 q_33_9 q_1_5 q_33_10 ⟨rfl, hdX9_floating⟩ ⟨Nat.le_of_ble_eq_true rfl, Nat.le_of_ble_eq_true rfl, rfl, rfl⟩ ⟨by show _ ≤ 600002; omega, by show _ ≤ 7302232; omega⟩ (Nat.le_of_ble_eq_true rfl) rfl rfl dL_law_918 (fun r64 _ => ?_)
  refine g_icmp_eq (pc := 921) (tgt := 2086) C dL_law_921 rfl ?_ ?_
  · refine g_keep [true, true, true, true, true, false, false] ?_
    refine g_widen (cs' := cs + 12) (ss' := ss + 72) (by omega) (by omega) ?_
    exact bL_law_2086 C hr hfl hcs hk23 r64.2 l4
  · refine g_iconst (pc := 924) (v := 0) C dL_law_924 (by decide) ?_
    exact g_law_f
def fL_law_898 (L : Nat) (xs : Nat → Int32) (k23 : Sg → Int32 → Option Bool) (σ : Sg) (l4 : Int32) : Option Bool :=
  (fL_law_2086 L xs k23 σ l4)
theorem bL_law_898 {X : Xc} {K : Kc} {L b cs ss : Nat} {xs : Nat → Int32} (C : MC X K cL_law 7 RL room_1) (hr : LH X K b L xs) (hfl : X.l.stackTraces = false) (hcs : cs + 12 ≤ 600002 ∧ ss + 72 ≤ 7302232) {k23 : Sg → Int32 → Option Bool} (hk23 : ∀ (σ : Sg) (l4 : Int32), GO X K 7 (lawQ K) (k23 σ l4) σ (cs + 12) (ss + 72) 23 [some (.ref b), some (.ref (X.ad 0)), some (.ref (X.ad 462)), some (.ref (X.ad 476)), some (.int (l4)), none, none] []) (σ : Sg) (l4 : Int32) : GO X K 7 (lawQ K) (fL_law_898 L xs k23 σ l4) σ (cs + 12) (ss + 72) 898 [some (.ref b), some (.ref (X.ad 0)), some (.ref (X.ad 462)), some (.ref (X.ad 476)), some (.int (l4)), none, none] [] := by
  unfold fL_law_898
  refine g_goto (pc := 898) (tgt := 2086) C dL_law_898 rfl ?_
  refine g_keep [true, true, true, true, true, false, false] ?_
  refine g_widen (cs' := cs + 12) (ss' := ss + 72) (by omega) (by omega) ?_
  exact bL_law_2086 C hr hfl hcs hk23 σ l4
def fL_law_833 (L : Nat) (xs : Nat → Int32) (k23 : Sg → Int32 → Option Bool) (σ : Sg) (l4 : Int32) : Option Bool :=
  if ck (l4 + 1) L then
    if ck (l4 + 2) L then
      (fL_window σ (xs (l4 + 1).toNatClampNeg) (xs (l4 + 2).toNatClampNeg) 476 1).bind fun r65 =>
      if ck (l4 + 1) L then
        if ck (l4 + 2) L then
          (fX9_window_ r65.2 462 (xs (l4 + 1).toNatClampNeg) (xs (l4 + 2).toNatClampNeg)).bind fun r66 =>
          (fX9_thrown r66.2 462).bind fun r67 =>
          if r67 = r65.1 then
            if r65.1 = 0 then
              if ck 0 1 then
                if (lg_cmp (r66.2.2 476 (0 : Int32).toNatClampNeg) r66.1.toInt64) = 0 then
                  (fL_law_898 L xs k23 r66.2 l4)
                else
                  some false
              else none
            else
              (fL_law_898 L xs k23 r66.2 l4)
          else
            some false
        else none
      else none
    else none
  else none
theorem bL_law_833 {X : Xc} {K : Kc} {L b cs ss : Nat} {xs : Nat → Int32} (C : MC X K cL_law 7 RL room_1) (hr : LH X K b L xs) (hfl : X.l.stackTraces = false) (hcs : cs + 12 ≤ 600002 ∧ ss + 72 ≤ 7302232) {k23 : Sg → Int32 → Option Bool} (hk23 : ∀ (σ : Sg) (l4 : Int32), GO X K 7 (lawQ K) (k23 σ l4) σ (cs + 12) (ss + 72) 23 [some (.ref b), some (.ref (X.ad 0)), some (.ref (X.ad 462)), some (.ref (X.ad 476)), some (.int (l4)), none, none] []) (σ : Sg) (l4 : Int32) : GO X K 7 (lawQ K) (fL_law_833 L xs k23 σ l4) σ (cs + 0) (ss + 0) 833 [some (.ref b), some (.ref (X.ad 0)), some (.ref (X.ad 462)), some (.ref (X.ad 476)), some (.int (l4)), none, none] [] := by
  unfold fL_law_833
  refine g_aload_n (pc := 833) (i := 1) C dL_law_833 rfl rfl ?_
  refine g_aload_n (pc := 834) (i := 0) C dL_law_834 rfl rfl ?_
  refine g_iload (pc := 835) C dL_law_835 rfl ?_
  refine g_iconst (pc := 837) (v := 1) C dL_law_837 (by decide) ?_
  refine g_iadd (pc := 838) C dL_law_838 ?_
  refine g_sld (pc := 839) C hr dL_law_839 ?_
  refine g_aload_n (pc := 840) (i := 0) C dL_law_840 rfl rfl ?_
  refine g_iload (pc := 841) C dL_law_841 rfl ?_
  refine g_iconst (pc := 843) (v := 2) C dL_law_843 (by decide) ?_
  refine g_iadd (pc := 844) C dL_law_844 ?_
  refine g_sld (pc := 845) C hr dL_law_845 ?_
  refine g_aload_n (pc := 846) (i := 3) C dL_law_846 rfl rfl ?_
  refine g_callHi (pc := 847) (As := [.ref (X.ad 0), .int (xs (l4 + 1).toNatClampNeg), .int (xs (l4 + 2).toNatClampNeg), .ref (X.ad 476)]) C (kL_window X σ (xs (l4 + 1).toNatClampNeg) (xs (l4 + 2).toNatClampNeg) 476 1 ok_out hfl) q_32_6 q_32_7 q_6_18 q_32_8 hdL_window ⟨Nat.le_of_ble_eq_true rfl, Nat.le_of_ble_eq_true rfl, rfl, rfl, by show _ ≤ 600002; omega, by show _ ≤ 7302232; omega⟩ (Nat.le_of_ble_eq_true rfl) rfl rfl dL_law_847 (fun r65 _ => ?_)
  refine g_istore (pc := 850) C dL_law_850 (Nat.le_of_ble_eq_true rfl) rfl ?_
  refine g_aload_n (pc := 852) (i := 2) C dL_law_852 rfl rfl ?_
  refine g_aload_n (pc := 853) (i := 0) C dL_law_853 rfl rfl ?_
  refine g_iload (pc := 854) C dL_law_854 rfl ?_
  refine g_iconst (pc := 856) (v := 1) C dL_law_856 (by decide) ?_
  refine g_iadd (pc := 857) C dL_law_857 ?_
  refine g_sld (pc := 858) C hr dL_law_858 ?_
  refine g_aload_n (pc := 859) (i := 0) C dL_law_859 rfl rfl ?_
  refine g_iload (pc := 860) C dL_law_860 rfl ?_
  refine g_iconst (pc := 862) (v := 2) C dL_law_862 (by decide) ?_
  refine g_iadd (pc := 863) C dL_law_863 ?_
  refine g_sld (pc := 864) C hr dL_law_864 ?_
  refine g_callVi (pc := 865) (As := [.int (xs (l4 + 1).toNatClampNeg), .int (xs (l4 + 2).toNatClampNeg)]) C (kX9_window_ X r65.2 462 (xs (l4 + 1).toNatClampNeg) (xs (l4 + 2).toNatClampNeg) ok_mo) (blk ok_mo 0 rfl) rfl q_32_15 q_32_16 q_32_17 q_1_5 q_32_18 ⟨rfl, hdX9_window_⟩ ⟨Nat.le_of_ble_eq_true rfl, Nat.le_of_ble_eq_true rfl, rfl, rfl⟩ ⟨by show _ ≤ 600002; omega, by show _ ≤ 7302232; omega⟩ (Nat.le_of_ble_eq_true rfl) rfl rfl dL_law_865 (fun r66 _ => ?_)
  refine g_istore (pc := 868) C dL_law_868 (Nat.le_of_ble_eq_true rfl) rfl ?_
  refine g_aload_n (pc := 870) (i := 2) C dL_law_870 rfl rfl ?_
  refine g_callVi (pc := 871) (As := []) C (kX9_thrown X r66.2 462 ok_mo) (blk ok_mo 0 rfl) rfl q_10_23 q_11_0 q_11_1 q_1_5 q_11_2 ⟨rfl, hdX9_thrown⟩ ⟨Nat.le_of_ble_eq_true rfl, Nat.le_of_ble_eq_true rfl, rfl, rfl⟩ ⟨by show _ ≤ 600002; omega, by show _ ≤ 7302232; omega⟩ (Nat.le_of_ble_eq_true rfl) rfl rfl dL_law_871 (fun r67 _ => ?_)
  refine g_iload (pc := 874) C dL_law_874 rfl ?_
  refine g_icmp_eq (pc := 876) (tgt := 881) C dL_law_876 rfl ?_ ?_
  · refine g_iload (pc := 881) C dL_law_881 rfl ?_
    refine g_if_ne (pc := 883) (tgt := 898) C dL_law_883 rfl ?_ ?_
    · refine g_aload_n (pc := 886) (i := 3) C dL_law_886 rfl rfl ?_
      refine g_iconst (pc := 887) (v := 0) C dL_law_887 (by decide) ?_
      refine g_laload (pc := 888) C ok_out dL_law_888 ?_
      refine g_iload (pc := 889) C dL_law_889 rfl ?_
      refine g_i2l (pc := 891) C dL_law_891 ?_
      refine g_lcmp (pc := 892) C dL_law_892 ?_
      refine g_if_eq (pc := 893) (tgt := 898) C dL_law_893 rfl ?_ ?_
      · refine g_keep [true, true, true, true, true, false, false] ?_
        refine g_widen (cs' := cs + 12) (ss' := ss + 72) (by omega) (by omega) ?_
        exact bL_law_898 C hr hfl hcs hk23 r66.2 l4
      · refine g_iconst (pc := 896) (v := 0) C dL_law_896 (by decide) ?_
        exact g_law_f
    · refine g_keep [true, true, true, true, true, false, false] ?_
      refine g_widen (cs' := cs + 12) (ss' := ss + 72) (by omega) (by omega) ?_
      exact bL_law_898 C hr hfl hcs hk23 r66.2 l4
  · refine g_iconst (pc := 879) (v := 0) C dL_law_879 (by decide) ?_
    exact g_law_f
def fL_law_830 (L : Nat) (xs : Nat → Int32) (k23 : Sg → Int32 → Option Bool) (σ : Sg) (l4 : Int32) : Option Bool :=
  (fL_law_2086 L xs k23 σ l4)
theorem bL_law_830 {X : Xc} {K : Kc} {L b cs ss : Nat} {xs : Nat → Int32} (C : MC X K cL_law 7 RL room_1) (hr : LH X K b L xs) (hfl : X.l.stackTraces = false) (hcs : cs + 12 ≤ 600002 ∧ ss + 72 ≤ 7302232) {k23 : Sg → Int32 → Option Bool} (hk23 : ∀ (σ : Sg) (l4 : Int32), GO X K 7 (lawQ K) (k23 σ l4) σ (cs + 12) (ss + 72) 23 [some (.ref b), some (.ref (X.ad 0)), some (.ref (X.ad 462)), some (.ref (X.ad 476)), some (.int (l4)), none, none] []) (σ : Sg) (l4 : Int32) : GO X K 7 (lawQ K) (fL_law_830 L xs k23 σ l4) σ (cs + 12) (ss + 72) 830 [some (.ref b), some (.ref (X.ad 0)), some (.ref (X.ad 462)), some (.ref (X.ad 476)), some (.int (l4)), none, none] [] := by
  unfold fL_law_830
  refine g_goto (pc := 830) (tgt := 2086) C dL_law_830 rfl ?_
  refine g_keep [true, true, true, true, true, false, false] ?_
  refine g_widen (cs' := cs + 12) (ss' := ss + 72) (by omega) (by omega) ?_
  exact bL_law_2086 C hr hfl hcs hk23 σ l4
def fL_law_777 (L : Nat) (xs : Nat → Int32) (k23 : Sg → Int32 → Option Bool) (σ : Sg) (l4 : Int32) : Option Bool :=
  if ck (l4 + 1) L then
    (fL_raise σ (xs (l4 + 1).toNatClampNeg) 476 1).bind fun r68 =>
    if ck (l4 + 1) L then
      (fX9_raise r68.2 462 (xs (l4 + 1).toNatClampNeg)).bind fun r69 =>
      (fX9_thrown r69.2 462).bind fun r70 =>
      if r70 = r68.1 then
        if r68.1 = 0 then
          if ck 0 1 then
            if (lg_cmp (r69.2.2 476 (0 : Int32).toNatClampNeg) r69.1.toInt64) = 0 then
              (fL_law_830 L xs k23 r69.2 l4)
            else
              some false
          else none
        else
          (fL_law_830 L xs k23 r69.2 l4)
      else
        some false
    else none
  else none
theorem bL_law_777 {X : Xc} {K : Kc} {L b cs ss : Nat} {xs : Nat → Int32} (C : MC X K cL_law 7 RL room_1) (hr : LH X K b L xs) (hfl : X.l.stackTraces = false) (hcs : cs + 12 ≤ 600002 ∧ ss + 72 ≤ 7302232) {k23 : Sg → Int32 → Option Bool} (hk23 : ∀ (σ : Sg) (l4 : Int32), GO X K 7 (lawQ K) (k23 σ l4) σ (cs + 12) (ss + 72) 23 [some (.ref b), some (.ref (X.ad 0)), some (.ref (X.ad 462)), some (.ref (X.ad 476)), some (.int (l4)), none, none] []) (σ : Sg) (l4 : Int32) : GO X K 7 (lawQ K) (fL_law_777 L xs k23 σ l4) σ (cs + 0) (ss + 0) 777 [some (.ref b), some (.ref (X.ad 0)), some (.ref (X.ad 462)), some (.ref (X.ad 476)), some (.int (l4)), none, none] [] := by
  unfold fL_law_777
  refine g_aload_n (pc := 777) (i := 1) C dL_law_777 rfl rfl ?_
  refine g_aload_n (pc := 778) (i := 0) C dL_law_778 rfl rfl ?_
  refine g_iload (pc := 779) C dL_law_779 rfl ?_
  refine g_iconst (pc := 781) (v := 1) C dL_law_781 (by decide) ?_
  refine g_iadd (pc := 782) C dL_law_782 ?_
  refine g_sld (pc := 783) C hr dL_law_783 ?_
  refine g_aload_n (pc := 784) (i := 3) C dL_law_784 rfl rfl ?_
  refine g_callHi (pc := 785) (As := [.ref (X.ad 0), .int (xs (l4 + 1).toNatClampNeg), .ref (X.ad 476)]) C (kL_raise X σ (xs (l4 + 1).toNatClampNeg) 476 1 ok_out hfl) q_31_9 q_31_10 q_6_18 q_31_11 hdL_raise ⟨Nat.le_of_ble_eq_true rfl, Nat.le_of_ble_eq_true rfl, rfl, rfl, by show _ ≤ 600002; omega, by show _ ≤ 7302232; omega⟩ (Nat.le_of_ble_eq_true rfl) rfl rfl dL_law_785 (fun r68 _ => ?_)
  refine g_istore (pc := 788) C dL_law_788 (Nat.le_of_ble_eq_true rfl) rfl ?_
  refine g_aload_n (pc := 790) (i := 2) C dL_law_790 rfl rfl ?_
  refine g_aload_n (pc := 791) (i := 0) C dL_law_791 rfl rfl ?_
  refine g_iload (pc := 792) C dL_law_792 rfl ?_
  refine g_iconst (pc := 794) (v := 1) C dL_law_794 (by decide) ?_
  refine g_iadd (pc := 795) C dL_law_795 ?_
  refine g_sld (pc := 796) C hr dL_law_796 ?_
  refine g_callVi (pc := 797) (As := [.int (xs (l4 + 1).toNatClampNeg)]) C (kX9_raise X r68.2 462 (xs (l4 + 1).toNatClampNeg) ok_mo) (blk ok_mo 0 rfl) rfl q_31_22 q_31_23 q_32_0 q_1_5 q_32_1 ⟨rfl, hdX9_raise⟩ ⟨Nat.le_of_ble_eq_true rfl, Nat.le_of_ble_eq_true rfl, rfl, rfl⟩ ⟨by show _ ≤ 600002; omega, by show _ ≤ 7302232; omega⟩ (Nat.le_of_ble_eq_true rfl) rfl rfl dL_law_797 (fun r69 _ => ?_)
  refine g_istore (pc := 800) C dL_law_800 (Nat.le_of_ble_eq_true rfl) rfl ?_
  refine g_aload_n (pc := 802) (i := 2) C dL_law_802 rfl rfl ?_
  refine g_callVi (pc := 803) (As := []) C (kX9_thrown X r69.2 462 ok_mo) (blk ok_mo 0 rfl) rfl q_10_23 q_11_0 q_11_1 q_1_5 q_11_2 ⟨rfl, hdX9_thrown⟩ ⟨Nat.le_of_ble_eq_true rfl, Nat.le_of_ble_eq_true rfl, rfl, rfl⟩ ⟨by show _ ≤ 600002; omega, by show _ ≤ 7302232; omega⟩ (Nat.le_of_ble_eq_true rfl) rfl rfl dL_law_803 (fun r70 _ => ?_)
  refine g_iload (pc := 806) C dL_law_806 rfl ?_
  refine g_icmp_eq (pc := 808) (tgt := 813) C dL_law_808 rfl ?_ ?_
  · refine g_iload (pc := 813) C dL_law_813 rfl ?_
    refine g_if_ne (pc := 815) (tgt := 830) C dL_law_815 rfl ?_ ?_
    · refine g_aload_n (pc := 818) (i := 3) C dL_law_818 rfl rfl ?_
      refine g_iconst (pc := 819) (v := 0) C dL_law_819 (by decide) ?_
      refine g_laload (pc := 820) C ok_out dL_law_820 ?_
      refine g_iload (pc := 821) C dL_law_821 rfl ?_
      refine g_i2l (pc := 823) C dL_law_823 ?_
      refine g_lcmp (pc := 824) C dL_law_824 ?_
      refine g_if_eq (pc := 825) (tgt := 830) C dL_law_825 rfl ?_ ?_
      · refine g_keep [true, true, true, true, true, false, false] ?_
        refine g_widen (cs' := cs + 12) (ss' := ss + 72) (by omega) (by omega) ?_
        exact bL_law_830 C hr hfl hcs hk23 r69.2 l4
      · refine g_iconst (pc := 828) (v := 0) C dL_law_828 (by decide) ?_
        exact g_law_f
    · refine g_keep [true, true, true, true, true, false, false] ?_
      refine g_widen (cs' := cs + 12) (ss' := ss + 72) (by omega) (by omega) ?_
      exact bL_law_830 C hr hfl hcs hk23 r69.2 l4
  · refine g_iconst (pc := 811) (v := 0) C dL_law_811 (by decide) ?_
    exact g_law_f
def fL_law_774 (L : Nat) (xs : Nat → Int32) (k23 : Sg → Int32 → Option Bool) (σ : Sg) (l4 : Int32) : Option Bool :=
  (fL_law_2086 L xs k23 σ l4)
theorem bL_law_774 {X : Xc} {K : Kc} {L b cs ss : Nat} {xs : Nat → Int32} (C : MC X K cL_law 7 RL room_1) (hr : LH X K b L xs) (hfl : X.l.stackTraces = false) (hcs : cs + 12 ≤ 600002 ∧ ss + 72 ≤ 7302232) {k23 : Sg → Int32 → Option Bool} (hk23 : ∀ (σ : Sg) (l4 : Int32), GO X K 7 (lawQ K) (k23 σ l4) σ (cs + 12) (ss + 72) 23 [some (.ref b), some (.ref (X.ad 0)), some (.ref (X.ad 462)), some (.ref (X.ad 476)), some (.int (l4)), none, none] []) (σ : Sg) (l4 : Int32) : GO X K 7 (lawQ K) (fL_law_774 L xs k23 σ l4) σ (cs + 12) (ss + 72) 774 [some (.ref b), some (.ref (X.ad 0)), some (.ref (X.ad 462)), some (.ref (X.ad 476)), some (.int (l4)), none, none] [] := by
  unfold fL_law_774
  refine g_goto (pc := 774) (tgt := 2086) C dL_law_774 rfl ?_
  refine g_keep [true, true, true, true, true, false, false] ?_
  refine g_widen (cs' := cs + 12) (ss' := ss + 72) (by omega) (by omega) ?_
  exact bL_law_2086 C hr hfl hcs hk23 σ l4
def fL_law_697 (L : Nat) (xs : Nat → Int32) (k23 : Sg → Int32 → Option Bool) (σ : Sg) (l4 : Int32) : Option Bool :=
  if ck (l4 + 1) L then
    if ck (l4 + 2) L then
      if ck (l4 + 3) L then
        (fL_move σ (xs (l4 + 1).toNatClampNeg) (xs (l4 + 2).toNatClampNeg) (xs (l4 + 3).toNatClampNeg) 476 1).bind fun r71 =>
        if ck (l4 + 1) L then
          if ck (l4 + 2) L then
            if ck (l4 + 3) L then
              (fX9_move r71.2 462 (xs (l4 + 1).toNatClampNeg) (xs (l4 + 2).toNatClampNeg) (xs (l4 + 3).toNatClampNeg)).bind fun r72 =>
              (fX9_thrown r72.2 462).bind fun r73 =>
              if r73 = r71.1 then
                if r71.1 = 0 then
                  if ck 0 1 then
                    if (lg_cmp (r72.2.2 476 (0 : Int32).toNatClampNeg) r72.1.toInt64) = 0 then
                      (fL_law_774 L xs k23 r72.2 l4)
                    else
                      some false
                  else none
                else
                  (fL_law_774 L xs k23 r72.2 l4)
              else
                some false
            else none
          else none
        else none
      else none
    else none
  else none
theorem bL_law_697 {X : Xc} {K : Kc} {L b cs ss : Nat} {xs : Nat → Int32} (C : MC X K cL_law 7 RL room_1) (hr : LH X K b L xs) (hfl : X.l.stackTraces = false) (hcs : cs + 12 ≤ 600002 ∧ ss + 72 ≤ 7302232) {k23 : Sg → Int32 → Option Bool} (hk23 : ∀ (σ : Sg) (l4 : Int32), GO X K 7 (lawQ K) (k23 σ l4) σ (cs + 12) (ss + 72) 23 [some (.ref b), some (.ref (X.ad 0)), some (.ref (X.ad 462)), some (.ref (X.ad 476)), some (.int (l4)), none, none] []) (σ : Sg) (l4 : Int32) : GO X K 7 (lawQ K) (fL_law_697 L xs k23 σ l4) σ (cs + 0) (ss + 0) 697 [some (.ref b), some (.ref (X.ad 0)), some (.ref (X.ad 462)), some (.ref (X.ad 476)), some (.int (l4)), none, none] [] := by
  unfold fL_law_697
  refine g_aload_n (pc := 697) (i := 1) C dL_law_697 rfl rfl ?_
  refine g_aload_n (pc := 698) (i := 0) C dL_law_698 rfl rfl ?_
  refine g_iload (pc := 699) C dL_law_699 rfl ?_
  refine g_iconst (pc := 701) (v := 1) C dL_law_701 (by decide) ?_
  refine g_iadd (pc := 702) C dL_law_702 ?_
  refine g_sld (pc := 703) C hr dL_law_703 ?_
  refine g_aload_n (pc := 704) (i := 0) C dL_law_704 rfl rfl ?_
  refine g_iload (pc := 705) C dL_law_705 rfl ?_
  refine g_iconst (pc := 707) (v := 2) C dL_law_707 (by decide) ?_
  refine g_iadd (pc := 708) C dL_law_708 ?_
  refine g_sld (pc := 709) C hr dL_law_709 ?_
  refine g_aload_n (pc := 710) (i := 0) C dL_law_710 rfl rfl ?_
  refine g_iload (pc := 711) C dL_law_711 rfl ?_
  refine g_iconst (pc := 713) (v := 3) C dL_law_713 (by decide) ?_
  refine g_iadd (pc := 714) C dL_law_714 ?_
  refine g_sld (pc := 715) C hr dL_law_715 ?_
  refine g_aload_n (pc := 716) (i := 3) C dL_law_716 rfl rfl ?_
  refine g_callHi (pc := 717) (As := [.ref (X.ad 0), .int (xs (l4 + 1).toNatClampNeg), .int (xs (l4 + 2).toNatClampNeg), .int (xs (l4 + 3).toNatClampNeg), .ref (X.ad 476)]) C (kL_move X σ (xs (l4 + 1).toNatClampNeg) (xs (l4 + 2).toNatClampNeg) (xs (l4 + 3).toNatClampNeg) 476 1 ok_out hfl) q_30_15 q_30_16 q_6_18 q_30_17 hdL_move ⟨Nat.le_of_ble_eq_true rfl, Nat.le_of_ble_eq_true rfl, rfl, rfl, by show _ ≤ 600002; omega, by show _ ≤ 7302232; omega⟩ (Nat.le_of_ble_eq_true rfl) rfl rfl dL_law_717 (fun r71 _ => ?_)
  refine g_istore (pc := 720) C dL_law_720 (Nat.le_of_ble_eq_true rfl) rfl ?_
  refine g_aload_n (pc := 722) (i := 2) C dL_law_722 rfl rfl ?_
  refine g_aload_n (pc := 723) (i := 0) C dL_law_723 rfl rfl ?_
  refine g_iload (pc := 724) C dL_law_724 rfl ?_
  refine g_iconst (pc := 726) (v := 1) C dL_law_726 (by decide) ?_
  refine g_iadd (pc := 727) C dL_law_727 ?_
  refine g_sld (pc := 728) C hr dL_law_728 ?_
  refine g_aload_n (pc := 729) (i := 0) C dL_law_729 rfl rfl ?_
  refine g_iload (pc := 730) C dL_law_730 rfl ?_
  refine g_iconst (pc := 732) (v := 2) C dL_law_732 (by decide) ?_
  refine g_iadd (pc := 733) C dL_law_733 ?_
  refine g_sld (pc := 734) C hr dL_law_734 ?_
  refine g_aload_n (pc := 735) (i := 0) C dL_law_735 rfl rfl ?_
  refine g_iload (pc := 736) C dL_law_736 rfl ?_
  refine g_iconst (pc := 738) (v := 3) C dL_law_738 (by decide) ?_
  refine g_iadd (pc := 739) C dL_law_739 ?_
  refine g_sld (pc := 740) C hr dL_law_740 ?_
  refine g_callVi (pc := 741) (As := [.int (xs (l4 + 1).toNatClampNeg), .int (xs (l4 + 2).toNatClampNeg), .int (xs (l4 + 3).toNatClampNeg)]) C (kX9_move X r71.2 462 (xs (l4 + 1).toNatClampNeg) (xs (l4 + 2).toNatClampNeg) (xs (l4 + 3).toNatClampNeg) ok_mo) (blk ok_mo 0 rfl) rfl q_31_5 q_31_6 q_31_7 q_1_5 q_31_8 ⟨rfl, hdX9_move⟩ ⟨Nat.le_of_ble_eq_true rfl, Nat.le_of_ble_eq_true rfl, rfl, rfl⟩ ⟨by show _ ≤ 600002; omega, by show _ ≤ 7302232; omega⟩ (Nat.le_of_ble_eq_true rfl) rfl rfl dL_law_741 (fun r72 _ => ?_)
  refine g_istore (pc := 744) C dL_law_744 (Nat.le_of_ble_eq_true rfl) rfl ?_
  refine g_aload_n (pc := 746) (i := 2) C dL_law_746 rfl rfl ?_
  refine g_callVi (pc := 747) (As := []) C (kX9_thrown X r72.2 462 ok_mo) (blk ok_mo 0 rfl) rfl q_10_23 q_11_0 q_11_1 q_1_5 q_11_2 ⟨rfl, hdX9_thrown⟩ ⟨Nat.le_of_ble_eq_true rfl, Nat.le_of_ble_eq_true rfl, rfl, rfl⟩ ⟨by show _ ≤ 600002; omega, by show _ ≤ 7302232; omega⟩ (Nat.le_of_ble_eq_true rfl) rfl rfl dL_law_747 (fun r73 _ => ?_)
  refine g_iload (pc := 750) C dL_law_750 rfl ?_
  refine g_icmp_eq (pc := 752) (tgt := 757) C dL_law_752 rfl ?_ ?_
  · refine g_iload (pc := 757) C dL_law_757 rfl ?_
    refine g_if_ne (pc := 759) (tgt := 774) C dL_law_759 rfl ?_ ?_
    · refine g_aload_n (pc := 762) (i := 3) C dL_law_762 rfl rfl ?_
      refine g_iconst (pc := 763) (v := 0) C dL_law_763 (by decide) ?_
      refine g_laload (pc := 764) C ok_out dL_law_764 ?_
      refine g_iload (pc := 765) C dL_law_765 rfl ?_
      refine g_i2l (pc := 767) C dL_law_767 ?_
      refine g_lcmp (pc := 768) C dL_law_768 ?_
      refine g_if_eq (pc := 769) (tgt := 774) C dL_law_769 rfl ?_ ?_
      · refine g_keep [true, true, true, true, true, false, false] ?_
        refine g_widen (cs' := cs + 12) (ss' := ss + 72) (by omega) (by omega) ?_
        exact bL_law_774 C hr hfl hcs hk23 r72.2 l4
      · refine g_iconst (pc := 772) (v := 0) C dL_law_772 (by decide) ?_
        exact g_law_f
    · refine g_keep [true, true, true, true, true, false, false] ?_
      refine g_widen (cs' := cs + 12) (ss' := ss + 72) (by omega) (by omega) ?_
      exact bL_law_774 C hr hfl hcs hk23 r72.2 l4
  · refine g_iconst (pc := 755) (v := 0) C dL_law_755 (by decide) ?_
    exact g_law_f
def fL_law_694 (L : Nat) (xs : Nat → Int32) (k23 : Sg → Int32 → Option Bool) (σ : Sg) (l4 : Int32) : Option Bool :=
  (fL_law_2086 L xs k23 σ l4)
theorem bL_law_694 {X : Xc} {K : Kc} {L b cs ss : Nat} {xs : Nat → Int32} (C : MC X K cL_law 7 RL room_1) (hr : LH X K b L xs) (hfl : X.l.stackTraces = false) (hcs : cs + 12 ≤ 600002 ∧ ss + 72 ≤ 7302232) {k23 : Sg → Int32 → Option Bool} (hk23 : ∀ (σ : Sg) (l4 : Int32), GO X K 7 (lawQ K) (k23 σ l4) σ (cs + 12) (ss + 72) 23 [some (.ref b), some (.ref (X.ad 0)), some (.ref (X.ad 462)), some (.ref (X.ad 476)), some (.int (l4)), none, none] []) (σ : Sg) (l4 : Int32) : GO X K 7 (lawQ K) (fL_law_694 L xs k23 σ l4) σ (cs + 12) (ss + 72) 694 [some (.ref b), some (.ref (X.ad 0)), some (.ref (X.ad 462)), some (.ref (X.ad 476)), some (.int (l4)), none, none] [] := by
  unfold fL_law_694
  refine g_goto (pc := 694) (tgt := 2086) C dL_law_694 rfl ?_
  refine g_keep [true, true, true, true, true, false, false] ?_
  refine g_widen (cs' := cs + 12) (ss' := ss + 72) (by omega) (by omega) ?_
  exact bL_law_2086 C hr hfl hcs hk23 σ l4
def fL_law_617 (L : Nat) (xs : Nat → Int32) (k23 : Sg → Int32 → Option Bool) (σ : Sg) (l4 : Int32) : Option Bool :=
  if ck (l4 + 1) L then
    if ck (l4 + 2) L then
      if ck (l4 + 3) L then
        (fL_resize σ (xs (l4 + 1).toNatClampNeg) (xs (l4 + 2).toNatClampNeg) (xs (l4 + 3).toNatClampNeg) 476 1).bind fun r74 =>
        if ck (l4 + 1) L then
          if ck (l4 + 2) L then
            if ck (l4 + 3) L then
              (fX9_resize r74.2 462 (xs (l4 + 1).toNatClampNeg) (xs (l4 + 2).toNatClampNeg) (xs (l4 + 3).toNatClampNeg)).bind fun r75 =>
              (fX9_thrown r75.2 462).bind fun r76 =>
              if r76 = r74.1 then
                if r74.1 = 0 then
                  if ck 0 1 then
                    if (lg_cmp (r75.2.2 476 (0 : Int32).toNatClampNeg) r75.1.toInt64) = 0 then
                      (fL_law_694 L xs k23 r75.2 l4)
                    else
                      some false
                  else none
                else
                  (fL_law_694 L xs k23 r75.2 l4)
              else
                some false
            else none
          else none
        else none
      else none
    else none
  else none
theorem bL_law_617 {X : Xc} {K : Kc} {L b cs ss : Nat} {xs : Nat → Int32} (C : MC X K cL_law 7 RL room_1) (hr : LH X K b L xs) (hfl : X.l.stackTraces = false) (hcs : cs + 12 ≤ 600002 ∧ ss + 72 ≤ 7302232) {k23 : Sg → Int32 → Option Bool} (hk23 : ∀ (σ : Sg) (l4 : Int32), GO X K 7 (lawQ K) (k23 σ l4) σ (cs + 12) (ss + 72) 23 [some (.ref b), some (.ref (X.ad 0)), some (.ref (X.ad 462)), some (.ref (X.ad 476)), some (.int (l4)), none, none] []) (σ : Sg) (l4 : Int32) : GO X K 7 (lawQ K) (fL_law_617 L xs k23 σ l4) σ (cs + 0) (ss + 0) 617 [some (.ref b), some (.ref (X.ad 0)), some (.ref (X.ad 462)), some (.ref (X.ad 476)), some (.int (l4)), none, none] [] := by
  unfold fL_law_617
  refine g_aload_n (pc := 617) (i := 1) C dL_law_617 rfl rfl ?_
  refine g_aload_n (pc := 618) (i := 0) C dL_law_618 rfl rfl ?_
  refine g_iload (pc := 619) C dL_law_619 rfl ?_
  refine g_iconst (pc := 621) (v := 1) C dL_law_621 (by decide) ?_
  refine g_iadd (pc := 622) C dL_law_622 ?_
  refine g_sld (pc := 623) C hr dL_law_623 ?_
  refine g_aload_n (pc := 624) (i := 0) C dL_law_624 rfl rfl ?_
  refine g_iload (pc := 625) C dL_law_625 rfl ?_
  refine g_iconst (pc := 627) (v := 2) C dL_law_627 (by decide) ?_
  refine g_iadd (pc := 628) C dL_law_628 ?_
  refine g_sld (pc := 629) C hr dL_law_629 ?_
  refine g_aload_n (pc := 630) (i := 0) C dL_law_630 rfl rfl ?_
  refine g_iload (pc := 631) C dL_law_631 rfl ?_
  refine g_iconst (pc := 633) (v := 3) C dL_law_633 (by decide) ?_
  refine g_iadd (pc := 634) C dL_law_634 ?_
  refine g_sld (pc := 635) C hr dL_law_635 ?_
  refine g_aload_n (pc := 636) (i := 3) C dL_law_636 rfl rfl ?_
  refine g_callHi (pc := 637) (As := [.ref (X.ad 0), .int (xs (l4 + 1).toNatClampNeg), .int (xs (l4 + 2).toNatClampNeg), .int (xs (l4 + 3).toNatClampNeg), .ref (X.ad 476)]) C (kL_resize X σ (xs (l4 + 1).toNatClampNeg) (xs (l4 + 2).toNatClampNeg) (xs (l4 + 3).toNatClampNeg) 476 1 ok_out hfl) q_29_7 q_29_8 q_6_18 q_29_9 hdL_resize ⟨Nat.le_of_ble_eq_true rfl, Nat.le_of_ble_eq_true rfl, rfl, rfl, by show _ ≤ 600002; omega, by show _ ≤ 7302232; omega⟩ (Nat.le_of_ble_eq_true rfl) rfl rfl dL_law_637 (fun r74 _ => ?_)
  refine g_istore (pc := 640) C dL_law_640 (Nat.le_of_ble_eq_true rfl) rfl ?_
  refine g_aload_n (pc := 642) (i := 2) C dL_law_642 rfl rfl ?_
  refine g_aload_n (pc := 643) (i := 0) C dL_law_643 rfl rfl ?_
  refine g_iload (pc := 644) C dL_law_644 rfl ?_
  refine g_iconst (pc := 646) (v := 1) C dL_law_646 (by decide) ?_
  refine g_iadd (pc := 647) C dL_law_647 ?_
  refine g_sld (pc := 648) C hr dL_law_648 ?_
  refine g_aload_n (pc := 649) (i := 0) C dL_law_649 rfl rfl ?_
  refine g_iload (pc := 650) C dL_law_650 rfl ?_
  refine g_iconst (pc := 652) (v := 2) C dL_law_652 (by decide) ?_
  refine g_iadd (pc := 653) C dL_law_653 ?_
  refine g_sld (pc := 654) C hr dL_law_654 ?_
  refine g_aload_n (pc := 655) (i := 0) C dL_law_655 rfl rfl ?_
  refine g_iload (pc := 656) C dL_law_656 rfl ?_
  refine g_iconst (pc := 658) (v := 3) C dL_law_658 (by decide) ?_
  refine g_iadd (pc := 659) C dL_law_659 ?_
  refine g_sld (pc := 660) C hr dL_law_660 ?_
  refine g_callVi (pc := 661) (As := [.int (xs (l4 + 1).toNatClampNeg), .int (xs (l4 + 2).toNatClampNeg), .int (xs (l4 + 3).toNatClampNeg)]) C (kX9_resize X r74.2 462 (xs (l4 + 1).toNatClampNeg) (xs (l4 + 2).toNatClampNeg) (xs (l4 + 3).toNatClampNeg) ok_mo) (blk ok_mo 0 rfl) rfl q_30_7 q_30_8 q_30_9 q_1_5 q_30_10 ⟨rfl, hdX9_resize⟩ ⟨Nat.le_of_ble_eq_true rfl, Nat.le_of_ble_eq_true rfl, rfl, rfl⟩ ⟨by show _ ≤ 600002; omega, by show _ ≤ 7302232; omega⟩ (Nat.le_of_ble_eq_true rfl) rfl rfl dL_law_661 (fun r75 _ => ?_)
  refine g_istore (pc := 664) C dL_law_664 (Nat.le_of_ble_eq_true rfl) rfl ?_
  refine g_aload_n (pc := 666) (i := 2) C dL_law_666 rfl rfl ?_
  refine g_callVi (pc := 667) (As := []) C (kX9_thrown X r75.2 462 ok_mo) (blk ok_mo 0 rfl) rfl q_10_23 q_11_0 q_11_1 q_1_5 q_11_2 ⟨rfl, hdX9_thrown⟩ ⟨Nat.le_of_ble_eq_true rfl, Nat.le_of_ble_eq_true rfl, rfl, rfl⟩ ⟨by show _ ≤ 600002; omega, by show _ ≤ 7302232; omega⟩ (Nat.le_of_ble_eq_true rfl) rfl rfl dL_law_667 (fun r76 _ => ?_)
  refine g_iload (pc := 670) C dL_law_670 rfl ?_
  refine g_icmp_eq (pc := 672) (tgt := 677) C dL_law_672 rfl ?_ ?_
  · refine g_iload (pc := 677) C dL_law_677 rfl ?_
    refine g_if_ne (pc := 679) (tgt := 694) C dL_law_679 rfl ?_ ?_
    · refine g_aload_n (pc := 682) (i := 3) C dL_law_682 rfl rfl ?_
      refine g_iconst (pc := 683) (v := 0) C dL_law_683 (by decide) ?_
      refine g_laload (pc := 684) C ok_out dL_law_684 ?_
      refine g_iload (pc := 685) C dL_law_685 rfl ?_
      refine g_i2l (pc := 687) C dL_law_687 ?_
      refine g_lcmp (pc := 688) C dL_law_688 ?_
      refine g_if_eq (pc := 689) (tgt := 694) C dL_law_689 rfl ?_ ?_
      · refine g_keep [true, true, true, true, true, false, false] ?_
        refine g_widen (cs' := cs + 12) (ss' := ss + 72) (by omega) (by omega) ?_
        exact bL_law_694 C hr hfl hcs hk23 r75.2 l4
      · refine g_iconst (pc := 692) (v := 0) C dL_law_692 (by decide) ?_
        exact g_law_f
    · refine g_keep [true, true, true, true, true, false, false] ?_
      refine g_widen (cs' := cs + 12) (ss' := ss + 72) (by omega) (by omega) ?_
      exact bL_law_694 C hr hfl hcs hk23 r75.2 l4
  · refine g_iconst (pc := 675) (v := 0) C dL_law_675 (by decide) ?_
    exact g_law_f
def fL_law_614 (L : Nat) (xs : Nat → Int32) (k23 : Sg → Int32 → Option Bool) (σ : Sg) (l4 : Int32) : Option Bool :=
  (fL_law_2086 L xs k23 σ l4)
theorem bL_law_614 {X : Xc} {K : Kc} {L b cs ss : Nat} {xs : Nat → Int32} (C : MC X K cL_law 7 RL room_1) (hr : LH X K b L xs) (hfl : X.l.stackTraces = false) (hcs : cs + 12 ≤ 600002 ∧ ss + 72 ≤ 7302232) {k23 : Sg → Int32 → Option Bool} (hk23 : ∀ (σ : Sg) (l4 : Int32), GO X K 7 (lawQ K) (k23 σ l4) σ (cs + 12) (ss + 72) 23 [some (.ref b), some (.ref (X.ad 0)), some (.ref (X.ad 462)), some (.ref (X.ad 476)), some (.int (l4)), none, none] []) (σ : Sg) (l4 : Int32) : GO X K 7 (lawQ K) (fL_law_614 L xs k23 σ l4) σ (cs + 12) (ss + 72) 614 [some (.ref b), some (.ref (X.ad 0)), some (.ref (X.ad 462)), some (.ref (X.ad 476)), some (.int (l4)), none, none] [] := by
  unfold fL_law_614
  refine g_goto (pc := 614) (tgt := 2086) C dL_law_614 rfl ?_
  refine g_keep [true, true, true, true, true, false, false] ?_
  refine g_widen (cs' := cs + 12) (ss' := ss + 72) (by omega) (by omega) ?_
  exact bL_law_2086 C hr hfl hcs hk23 σ l4
def fL_law_549 (L : Nat) (xs : Nat → Int32) (k23 : Sg → Int32 → Option Bool) (σ : Sg) (l4 : Int32) : Option Bool :=
  if ck (l4 + 1) L then
    if ck (l4 + 2) L then
      (fL_tab σ (xs (l4 + 1).toNatClampNeg) (xs (l4 + 2).toNatClampNeg) 476 1).bind fun r77 =>
      if ck (l4 + 1) L then
        if ck (l4 + 2) L then
          (fX9_tab r77.2 462 (xs (l4 + 1).toNatClampNeg) (xs (l4 + 2).toNatClampNeg)).bind fun r78 =>
          (fX9_thrown r78.2 462).bind fun r79 =>
          if r79 = r77.1 then
            if r77.1 = 0 then
              if ck 0 1 then
                if (lg_cmp (r78.2.2 476 (0 : Int32).toNatClampNeg) r78.1.toInt64) = 0 then
                  (fL_law_614 L xs k23 r78.2 l4)
                else
                  some false
              else none
            else
              (fL_law_614 L xs k23 r78.2 l4)
          else
            some false
        else none
      else none
    else none
  else none
theorem bL_law_549 {X : Xc} {K : Kc} {L b cs ss : Nat} {xs : Nat → Int32} (C : MC X K cL_law 7 RL room_1) (hr : LH X K b L xs) (hfl : X.l.stackTraces = false) (hcs : cs + 12 ≤ 600002 ∧ ss + 72 ≤ 7302232) {k23 : Sg → Int32 → Option Bool} (hk23 : ∀ (σ : Sg) (l4 : Int32), GO X K 7 (lawQ K) (k23 σ l4) σ (cs + 12) (ss + 72) 23 [some (.ref b), some (.ref (X.ad 0)), some (.ref (X.ad 462)), some (.ref (X.ad 476)), some (.int (l4)), none, none] []) (σ : Sg) (l4 : Int32) : GO X K 7 (lawQ K) (fL_law_549 L xs k23 σ l4) σ (cs + 0) (ss + 0) 549 [some (.ref b), some (.ref (X.ad 0)), some (.ref (X.ad 462)), some (.ref (X.ad 476)), some (.int (l4)), none, none] [] := by
  unfold fL_law_549
  refine g_aload_n (pc := 549) (i := 1) C dL_law_549 rfl rfl ?_
  refine g_aload_n (pc := 550) (i := 0) C dL_law_550 rfl rfl ?_
  refine g_iload (pc := 551) C dL_law_551 rfl ?_
  refine g_iconst (pc := 553) (v := 1) C dL_law_553 (by decide) ?_
  refine g_iadd (pc := 554) C dL_law_554 ?_
  refine g_sld (pc := 555) C hr dL_law_555 ?_
  refine g_aload_n (pc := 556) (i := 0) C dL_law_556 rfl rfl ?_
  refine g_iload (pc := 557) C dL_law_557 rfl ?_
  refine g_iconst (pc := 559) (v := 2) C dL_law_559 (by decide) ?_
  refine g_iadd (pc := 560) C dL_law_560 ?_
  refine g_sld (pc := 561) C hr dL_law_561 ?_
  refine g_aload_n (pc := 562) (i := 3) C dL_law_562 rfl rfl ?_
  refine g_callHi (pc := 563) (As := [.ref (X.ad 0), .int (xs (l4 + 1).toNatClampNeg), .int (xs (l4 + 2).toNatClampNeg), .ref (X.ad 476)]) C (kL_tab X σ (xs (l4 + 1).toNatClampNeg) (xs (l4 + 2).toNatClampNeg) 476 1 ok_out hfl) q_28_19 q_28_20 q_6_18 q_28_21 hdL_tab ⟨Nat.le_of_ble_eq_true rfl, Nat.le_of_ble_eq_true rfl, rfl, rfl, by show _ ≤ 600002; omega, by show _ ≤ 7302232; omega⟩ (Nat.le_of_ble_eq_true rfl) rfl rfl dL_law_563 (fun r77 _ => ?_)
  refine g_istore (pc := 566) C dL_law_566 (Nat.le_of_ble_eq_true rfl) rfl ?_
  refine g_aload_n (pc := 568) (i := 2) C dL_law_568 rfl rfl ?_
  refine g_aload_n (pc := 569) (i := 0) C dL_law_569 rfl rfl ?_
  refine g_iload (pc := 570) C dL_law_570 rfl ?_
  refine g_iconst (pc := 572) (v := 1) C dL_law_572 (by decide) ?_
  refine g_iadd (pc := 573) C dL_law_573 ?_
  refine g_sld (pc := 574) C hr dL_law_574 ?_
  refine g_aload_n (pc := 575) (i := 0) C dL_law_575 rfl rfl ?_
  refine g_iload (pc := 576) C dL_law_576 rfl ?_
  refine g_iconst (pc := 578) (v := 2) C dL_law_578 (by decide) ?_
  refine g_iadd (pc := 579) C dL_law_579 ?_
  refine g_sld (pc := 580) C hr dL_law_580 ?_
  refine g_callVi (pc := 581) (As := [.int (xs (l4 + 1).toNatClampNeg), .int (xs (l4 + 2).toNatClampNeg)]) C (kX9_tab X r77.2 462 (xs (l4 + 1).toNatClampNeg) (xs (l4 + 2).toNatClampNeg) ok_mo) (blk ok_mo 0 rfl) rfl q_29_3 q_29_4 q_29_5 q_1_5 q_29_6 ⟨rfl, hdX9_tab⟩ ⟨Nat.le_of_ble_eq_true rfl, Nat.le_of_ble_eq_true rfl, rfl, rfl⟩ ⟨by show _ ≤ 600002; omega, by show _ ≤ 7302232; omega⟩ (Nat.le_of_ble_eq_true rfl) rfl rfl dL_law_581 (fun r78 _ => ?_)
  refine g_istore (pc := 584) C dL_law_584 (Nat.le_of_ble_eq_true rfl) rfl ?_
  refine g_aload_n (pc := 586) (i := 2) C dL_law_586 rfl rfl ?_
  refine g_callVi (pc := 587) (As := []) C (kX9_thrown X r78.2 462 ok_mo) (blk ok_mo 0 rfl) rfl q_10_23 q_11_0 q_11_1 q_1_5 q_11_2 ⟨rfl, hdX9_thrown⟩ ⟨Nat.le_of_ble_eq_true rfl, Nat.le_of_ble_eq_true rfl, rfl, rfl⟩ ⟨by show _ ≤ 600002; omega, by show _ ≤ 7302232; omega⟩ (Nat.le_of_ble_eq_true rfl) rfl rfl dL_law_587 (fun r79 _ => ?_)
  refine g_iload (pc := 590) C dL_law_590 rfl ?_
  refine g_icmp_eq (pc := 592) (tgt := 597) C dL_law_592 rfl ?_ ?_
  · refine g_iload (pc := 597) C dL_law_597 rfl ?_
    refine g_if_ne (pc := 599) (tgt := 614) C dL_law_599 rfl ?_ ?_
    · refine g_aload_n (pc := 602) (i := 3) C dL_law_602 rfl rfl ?_
      refine g_iconst (pc := 603) (v := 0) C dL_law_603 (by decide) ?_
      refine g_laload (pc := 604) C ok_out dL_law_604 ?_
      refine g_iload (pc := 605) C dL_law_605 rfl ?_
      refine g_i2l (pc := 607) C dL_law_607 ?_
      refine g_lcmp (pc := 608) C dL_law_608 ?_
      refine g_if_eq (pc := 609) (tgt := 614) C dL_law_609 rfl ?_ ?_
      · refine g_keep [true, true, true, true, true, false, false] ?_
        refine g_widen (cs' := cs + 12) (ss' := ss + 72) (by omega) (by omega) ?_
        exact bL_law_614 C hr hfl hcs hk23 r78.2 l4
      · refine g_iconst (pc := 612) (v := 0) C dL_law_612 (by decide) ?_
        exact g_law_f
    · refine g_keep [true, true, true, true, true, false, false] ?_
      refine g_widen (cs' := cs + 12) (ss' := ss + 72) (by omega) (by omega) ?_
      exact bL_law_614 C hr hfl hcs hk23 r78.2 l4
  · refine g_iconst (pc := 595) (v := 0) C dL_law_595 (by decide) ?_
    exact g_law_f
def fL_law_546 (L : Nat) (xs : Nat → Int32) (k23 : Sg → Int32 → Option Bool) (σ : Sg) (l4 : Int32) : Option Bool :=
  (fL_law_2086 L xs k23 σ l4)
theorem bL_law_546 {X : Xc} {K : Kc} {L b cs ss : Nat} {xs : Nat → Int32} (C : MC X K cL_law 7 RL room_1) (hr : LH X K b L xs) (hfl : X.l.stackTraces = false) (hcs : cs + 12 ≤ 600002 ∧ ss + 72 ≤ 7302232) {k23 : Sg → Int32 → Option Bool} (hk23 : ∀ (σ : Sg) (l4 : Int32), GO X K 7 (lawQ K) (k23 σ l4) σ (cs + 12) (ss + 72) 23 [some (.ref b), some (.ref (X.ad 0)), some (.ref (X.ad 462)), some (.ref (X.ad 476)), some (.int (l4)), none, none] []) (σ : Sg) (l4 : Int32) : GO X K 7 (lawQ K) (fL_law_546 L xs k23 σ l4) σ (cs + 12) (ss + 72) 546 [some (.ref b), some (.ref (X.ad 0)), some (.ref (X.ad 462)), some (.ref (X.ad 476)), some (.int (l4)), none, none] [] := by
  unfold fL_law_546
  refine g_goto (pc := 546) (tgt := 2086) C dL_law_546 rfl ?_
  refine g_keep [true, true, true, true, true, false, false] ?_
  refine g_widen (cs' := cs + 12) (ss' := ss + 72) (by omega) (by omega) ?_
  exact bL_law_2086 C hr hfl hcs hk23 σ l4
def fL_law_481 (L : Nat) (xs : Nat → Int32) (k23 : Sg → Int32 → Option Bool) (σ : Sg) (l4 : Int32) : Option Bool :=
  if ck (l4 + 1) L then
    if ck (l4 + 2) L then
      (fL_rectangle σ (xs (l4 + 1).toNatClampNeg) (xs (l4 + 2).toNatClampNeg) 476 1).bind fun r80 =>
      if ck (l4 + 1) L then
        if ck (l4 + 2) L then
          (fX9_rectangle r80.2 462 (xs (l4 + 1).toNatClampNeg) (xs (l4 + 2).toNatClampNeg)).bind fun r81 =>
          (fX9_thrown r81.2 462).bind fun r82 =>
          if r82 = r80.1 then
            if r80.1 = 0 then
              if ck 0 1 then
                if (lg_cmp (r81.2.2 476 (0 : Int32).toNatClampNeg) r81.1.toInt64) = 0 then
                  (fL_law_546 L xs k23 r81.2 l4)
                else
                  some false
              else none
            else
              (fL_law_546 L xs k23 r81.2 l4)
          else
            some false
        else none
      else none
    else none
  else none
theorem bL_law_481 {X : Xc} {K : Kc} {L b cs ss : Nat} {xs : Nat → Int32} (C : MC X K cL_law 7 RL room_1) (hr : LH X K b L xs) (hfl : X.l.stackTraces = false) (hcs : cs + 12 ≤ 600002 ∧ ss + 72 ≤ 7302232) {k23 : Sg → Int32 → Option Bool} (hk23 : ∀ (σ : Sg) (l4 : Int32), GO X K 7 (lawQ K) (k23 σ l4) σ (cs + 12) (ss + 72) 23 [some (.ref b), some (.ref (X.ad 0)), some (.ref (X.ad 462)), some (.ref (X.ad 476)), some (.int (l4)), none, none] []) (σ : Sg) (l4 : Int32) : GO X K 7 (lawQ K) (fL_law_481 L xs k23 σ l4) σ (cs + 0) (ss + 0) 481 [some (.ref b), some (.ref (X.ad 0)), some (.ref (X.ad 462)), some (.ref (X.ad 476)), some (.int (l4)), none, none] [] := by
  unfold fL_law_481
  refine g_aload_n (pc := 481) (i := 1) C dL_law_481 rfl rfl ?_
  refine g_aload_n (pc := 482) (i := 0) C dL_law_482 rfl rfl ?_
  refine g_iload (pc := 483) C dL_law_483 rfl ?_
  refine g_iconst (pc := 485) (v := 1) C dL_law_485 (by decide) ?_
  refine g_iadd (pc := 486) C dL_law_486 ?_
  refine g_sld (pc := 487) C hr dL_law_487 ?_
  refine g_aload_n (pc := 488) (i := 0) C dL_law_488 rfl rfl ?_
  refine g_iload (pc := 489) C dL_law_489 rfl ?_
  refine g_iconst (pc := 491) (v := 2) C dL_law_491 (by decide) ?_
  refine g_iadd (pc := 492) C dL_law_492 ?_
  refine g_sld (pc := 493) C hr dL_law_493 ?_
  refine g_aload_n (pc := 494) (i := 3) C dL_law_494 rfl rfl ?_
  refine g_callHi (pc := 495) (As := [.ref (X.ad 0), .int (xs (l4 + 1).toNatClampNeg), .int (xs (l4 + 2).toNatClampNeg), .ref (X.ad 476)]) C (kL_rectangle X σ (xs (l4 + 1).toNatClampNeg) (xs (l4 + 2).toNatClampNeg) 476 1 ok_out hfl) q_25_21 q_25_22 q_6_18 q_25_23 hdL_rectangle ⟨Nat.le_of_ble_eq_true rfl, Nat.le_of_ble_eq_true rfl, rfl, rfl, by show _ ≤ 600002; omega, by show _ ≤ 7302232; omega⟩ (Nat.le_of_ble_eq_true rfl) rfl rfl dL_law_495 (fun r80 _ => ?_)
  refine g_istore (pc := 498) C dL_law_498 (Nat.le_of_ble_eq_true rfl) rfl ?_
  refine g_aload_n (pc := 500) (i := 2) C dL_law_500 rfl rfl ?_
  refine g_aload_n (pc := 501) (i := 0) C dL_law_501 rfl rfl ?_
  refine g_iload (pc := 502) C dL_law_502 rfl ?_
  refine g_iconst (pc := 504) (v := 1) C dL_law_504 (by decide) ?_
  refine g_iadd (pc := 505) C dL_law_505 ?_
  refine g_sld (pc := 506) C hr dL_law_506 ?_
  refine g_aload_n (pc := 507) (i := 0) C dL_law_507 rfl rfl ?_
  refine g_iload (pc := 508) C dL_law_508 rfl ?_
  refine g_iconst (pc := 510) (v := 2) C dL_law_510 (by decide) ?_
  refine g_iadd (pc := 511) C dL_law_511 ?_
  refine g_sld (pc := 512) C hr dL_law_512 ?_
  refine g_callVi (pc := 513) (As := [.int (xs (l4 + 1).toNatClampNeg), .int (xs (l4 + 2).toNatClampNeg)]) C (kX9_rectangle X r80.2 462 (xs (l4 + 1).toNatClampNeg) (xs (l4 + 2).toNatClampNeg) ok_mo) (blk ok_mo 0 rfl) rfl q_26_21 q_26_22 q_26_23 q_1_5 q_27_0 ⟨rfl, hdX9_rectangle⟩ ⟨Nat.le_of_ble_eq_true rfl, Nat.le_of_ble_eq_true rfl, rfl, rfl⟩ ⟨by show _ ≤ 600002; omega, by show _ ≤ 7302232; omega⟩ (Nat.le_of_ble_eq_true rfl) rfl rfl dL_law_513 (fun r81 _ => ?_)
  refine g_istore (pc := 516) C dL_law_516 (Nat.le_of_ble_eq_true rfl) rfl ?_
  refine g_aload_n (pc := 518) (i := 2) C dL_law_518 rfl rfl ?_
  refine g_callVi (pc := 519) (As := []) C (kX9_thrown X r81.2 462 ok_mo) (blk ok_mo 0 rfl) rfl q_10_23 q_11_0 q_11_1 q_1_5 q_11_2 ⟨rfl, hdX9_thrown⟩ ⟨Nat.le_of_ble_eq_true rfl, Nat.le_of_ble_eq_true rfl, rfl, rfl⟩ ⟨by show _ ≤ 600002; omega, by show _ ≤ 7302232; omega⟩ (Nat.le_of_ble_eq_true rfl) rfl rfl dL_law_519 (fun r82 _ => ?_)
  refine g_iload (pc := 522) C dL_law_522 rfl ?_
  refine g_icmp_eq (pc := 524) (tgt := 529) C dL_law_524 rfl ?_ ?_
  · refine g_iload (pc := 529) C dL_law_529 rfl ?_
    refine g_if_ne (pc := 531) (tgt := 546) C dL_law_531 rfl ?_ ?_
    · refine g_aload_n (pc := 534) (i := 3) C dL_law_534 rfl rfl ?_
      refine g_iconst (pc := 535) (v := 0) C dL_law_535 (by decide) ?_
      refine g_laload (pc := 536) C ok_out dL_law_536 ?_
      refine g_iload (pc := 537) C dL_law_537 rfl ?_
      refine g_i2l (pc := 539) C dL_law_539 ?_
      refine g_lcmp (pc := 540) C dL_law_540 ?_
      refine g_if_eq (pc := 541) (tgt := 546) C dL_law_541 rfl ?_ ?_
      · refine g_keep [true, true, true, true, true, false, false] ?_
        refine g_widen (cs' := cs + 12) (ss' := ss + 72) (by omega) (by omega) ?_
        exact bL_law_546 C hr hfl hcs hk23 r81.2 l4
      · refine g_iconst (pc := 544) (v := 0) C dL_law_544 (by decide) ?_
        exact g_law_f
    · refine g_keep [true, true, true, true, true, false, false] ?_
      refine g_widen (cs' := cs + 12) (ss' := ss + 72) (by omega) (by omega) ?_
      exact bL_law_546 C hr hfl hcs hk23 r81.2 l4
  · refine g_iconst (pc := 527) (v := 0) C dL_law_527 (by decide) ?_
    exact g_law_f
def fL_law_478 (L : Nat) (xs : Nat → Int32) (k23 : Sg → Int32 → Option Bool) (σ : Sg) (l4 : Int32) : Option Bool :=
  (fL_law_2086 L xs k23 σ l4)
theorem bL_law_478 {X : Xc} {K : Kc} {L b cs ss : Nat} {xs : Nat → Int32} (C : MC X K cL_law 7 RL room_1) (hr : LH X K b L xs) (hfl : X.l.stackTraces = false) (hcs : cs + 12 ≤ 600002 ∧ ss + 72 ≤ 7302232) {k23 : Sg → Int32 → Option Bool} (hk23 : ∀ (σ : Sg) (l4 : Int32), GO X K 7 (lawQ K) (k23 σ l4) σ (cs + 12) (ss + 72) 23 [some (.ref b), some (.ref (X.ad 0)), some (.ref (X.ad 462)), some (.ref (X.ad 476)), some (.int (l4)), none, none] []) (σ : Sg) (l4 : Int32) : GO X K 7 (lawQ K) (fL_law_478 L xs k23 σ l4) σ (cs + 12) (ss + 72) 478 [some (.ref b), some (.ref (X.ad 0)), some (.ref (X.ad 462)), some (.ref (X.ad 476)), some (.int (l4)), none, none] [] := by
  unfold fL_law_478
  refine g_goto (pc := 478) (tgt := 2086) C dL_law_478 rfl ?_
  refine g_keep [true, true, true, true, true, false, false] ?_
  refine g_widen (cs' := cs + 12) (ss' := ss + 72) (by omega) (by omega) ?_
  exact bL_law_2086 C hr hfl hcs hk23 σ l4
def fL_law_413 (L : Nat) (xs : Nat → Int32) (k23 : Sg → Int32 → Option Bool) (σ : Sg) (l4 : Int32) : Option Bool :=
  if ck (l4 + 1) L then
    if ck (l4 + 2) L then
      (fL_pane σ (xs (l4 + 1).toNatClampNeg) (xs (l4 + 2).toNatClampNeg) 476 1).bind fun r83 =>
      if ck (l4 + 1) L then
        if ck (l4 + 2) L then
          (fX9_pane r83.2 462 (xs (l4 + 1).toNatClampNeg) (xs (l4 + 2).toNatClampNeg)).bind fun r84 =>
          (fX9_thrown r84.2 462).bind fun r85 =>
          if r85 = r83.1 then
            if r83.1 = 0 then
              if ck 0 1 then
                if (lg_cmp (r84.2.2 476 (0 : Int32).toNatClampNeg) r84.1.toInt64) = 0 then
                  (fL_law_478 L xs k23 r84.2 l4)
                else
                  some false
              else none
            else
              (fL_law_478 L xs k23 r84.2 l4)
          else
            some false
        else none
      else none
    else none
  else none
theorem bL_law_413 {X : Xc} {K : Kc} {L b cs ss : Nat} {xs : Nat → Int32} (C : MC X K cL_law 7 RL room_1) (hr : LH X K b L xs) (hfl : X.l.stackTraces = false) (hcs : cs + 12 ≤ 600002 ∧ ss + 72 ≤ 7302232) {k23 : Sg → Int32 → Option Bool} (hk23 : ∀ (σ : Sg) (l4 : Int32), GO X K 7 (lawQ K) (k23 σ l4) σ (cs + 12) (ss + 72) 23 [some (.ref b), some (.ref (X.ad 0)), some (.ref (X.ad 462)), some (.ref (X.ad 476)), some (.int (l4)), none, none] []) (σ : Sg) (l4 : Int32) : GO X K 7 (lawQ K) (fL_law_413 L xs k23 σ l4) σ (cs + 0) (ss + 0) 413 [some (.ref b), some (.ref (X.ad 0)), some (.ref (X.ad 462)), some (.ref (X.ad 476)), some (.int (l4)), none, none] [] := by
  unfold fL_law_413
  refine g_aload_n (pc := 413) (i := 1) C dL_law_413 rfl rfl ?_
  refine g_aload_n (pc := 414) (i := 0) C dL_law_414 rfl rfl ?_
  refine g_iload (pc := 415) C dL_law_415 rfl ?_
  refine g_iconst (pc := 417) (v := 1) C dL_law_417 (by decide) ?_
  refine g_iadd (pc := 418) C dL_law_418 ?_
  refine g_sld (pc := 419) C hr dL_law_419 ?_
  refine g_aload_n (pc := 420) (i := 0) C dL_law_420 rfl rfl ?_
  refine g_iload (pc := 421) C dL_law_421 rfl ?_
  refine g_iconst (pc := 423) (v := 2) C dL_law_423 (by decide) ?_
  refine g_iadd (pc := 424) C dL_law_424 ?_
  refine g_sld (pc := 425) C hr dL_law_425 ?_
  refine g_aload_n (pc := 426) (i := 3) C dL_law_426 rfl rfl ?_
  refine g_callHi (pc := 427) (As := [.ref (X.ad 0), .int (xs (l4 + 1).toNatClampNeg), .int (xs (l4 + 2).toNatClampNeg), .ref (X.ad 476)]) C (kL_pane X σ (xs (l4 + 1).toNatClampNeg) (xs (l4 + 2).toNatClampNeg) 476 1 ok_out hfl) q_24_15 q_24_16 q_6_18 q_24_17 hdL_pane ⟨Nat.le_of_ble_eq_true rfl, Nat.le_of_ble_eq_true rfl, rfl, rfl, by show _ ≤ 600002; omega, by show _ ≤ 7302232; omega⟩ (Nat.le_of_ble_eq_true rfl) rfl rfl dL_law_427 (fun r83 _ => ?_)
  refine g_istore (pc := 430) C dL_law_430 (Nat.le_of_ble_eq_true rfl) rfl ?_
  refine g_aload_n (pc := 432) (i := 2) C dL_law_432 rfl rfl ?_
  refine g_aload_n (pc := 433) (i := 0) C dL_law_433 rfl rfl ?_
  refine g_iload (pc := 434) C dL_law_434 rfl ?_
  refine g_iconst (pc := 436) (v := 1) C dL_law_436 (by decide) ?_
  refine g_iadd (pc := 437) C dL_law_437 ?_
  refine g_sld (pc := 438) C hr dL_law_438 ?_
  refine g_aload_n (pc := 439) (i := 0) C dL_law_439 rfl rfl ?_
  refine g_iload (pc := 440) C dL_law_440 rfl ?_
  refine g_iconst (pc := 442) (v := 2) C dL_law_442 (by decide) ?_
  refine g_iadd (pc := 443) C dL_law_443 ?_
  refine g_sld (pc := 444) C hr dL_law_444 ?_
  refine g_callVi (pc := 445) (As := [.int (xs (l4 + 1).toNatClampNeg), .int (xs (l4 + 2).toNatClampNeg)]) C (kX9_pane X r83.2 462 (xs (l4 + 1).toNatClampNeg) (xs (l4 + 2).toNatClampNeg) ok_mo) (blk ok_mo 0 rfl) rfl q_25_13 q_25_14 q_25_15 q_1_5 q_25_16 ⟨rfl, hdX9_pane⟩ ⟨Nat.le_of_ble_eq_true rfl, Nat.le_of_ble_eq_true rfl, rfl, rfl⟩ ⟨by show _ ≤ 600002; omega, by show _ ≤ 7302232; omega⟩ (Nat.le_of_ble_eq_true rfl) rfl rfl dL_law_445 (fun r84 _ => ?_)
  refine g_istore (pc := 448) C dL_law_448 (Nat.le_of_ble_eq_true rfl) rfl ?_
  refine g_aload_n (pc := 450) (i := 2) C dL_law_450 rfl rfl ?_
  refine g_callVi (pc := 451) (As := []) C (kX9_thrown X r84.2 462 ok_mo) (blk ok_mo 0 rfl) rfl q_10_23 q_11_0 q_11_1 q_1_5 q_11_2 ⟨rfl, hdX9_thrown⟩ ⟨Nat.le_of_ble_eq_true rfl, Nat.le_of_ble_eq_true rfl, rfl, rfl⟩ ⟨by show _ ≤ 600002; omega, by show _ ≤ 7302232; omega⟩ (Nat.le_of_ble_eq_true rfl) rfl rfl dL_law_451 (fun r85 _ => ?_)
  refine g_iload (pc := 454) C dL_law_454 rfl ?_
  refine g_icmp_eq (pc := 456) (tgt := 461) C dL_law_456 rfl ?_ ?_
  · refine g_iload (pc := 461) C dL_law_461 rfl ?_
    refine g_if_ne (pc := 463) (tgt := 478) C dL_law_463 rfl ?_ ?_
    · refine g_aload_n (pc := 466) (i := 3) C dL_law_466 rfl rfl ?_
      refine g_iconst (pc := 467) (v := 0) C dL_law_467 (by decide) ?_
      refine g_laload (pc := 468) C ok_out dL_law_468 ?_
      refine g_iload (pc := 469) C dL_law_469 rfl ?_
      refine g_i2l (pc := 471) C dL_law_471 ?_
      refine g_lcmp (pc := 472) C dL_law_472 ?_
      refine g_if_eq (pc := 473) (tgt := 478) C dL_law_473 rfl ?_ ?_
      · refine g_keep [true, true, true, true, true, false, false] ?_
        refine g_widen (cs' := cs + 12) (ss' := ss + 72) (by omega) (by omega) ?_
        exact bL_law_478 C hr hfl hcs hk23 r84.2 l4
      · refine g_iconst (pc := 476) (v := 0) C dL_law_476 (by decide) ?_
        exact g_law_f
    · refine g_keep [true, true, true, true, true, false, false] ?_
      refine g_widen (cs' := cs + 12) (ss' := ss + 72) (by omega) (by omega) ?_
      exact bL_law_478 C hr hfl hcs hk23 r84.2 l4
  · refine g_iconst (pc := 459) (v := 0) C dL_law_459 (by decide) ?_
    exact g_law_f
def fL_law_400 (L : Nat) (xs : Nat → Int32) (k23 : Sg → Int32 → Option Bool) (σ : Sg) (l4 : Int32) : Option Bool :=
  (fX8_panes σ).bind fun r86 =>
  (fX9_panes σ 462).bind fun r87 =>
  if r86 = r87.1 then
    (fL_law_2086 L xs k23 r87.2 l4)
  else
    some false
theorem bL_law_400 {X : Xc} {K : Kc} {L b cs ss : Nat} {xs : Nat → Int32} (C : MC X K cL_law 7 RL room_1) (hr : LH X K b L xs) (hfl : X.l.stackTraces = false) (hcs : cs + 12 ≤ 600002 ∧ ss + 72 ≤ 7302232) {k23 : Sg → Int32 → Option Bool} (hk23 : ∀ (σ : Sg) (l4 : Int32), GO X K 7 (lawQ K) (k23 σ l4) σ (cs + 12) (ss + 72) 23 [some (.ref b), some (.ref (X.ad 0)), some (.ref (X.ad 462)), some (.ref (X.ad 476)), some (.int (l4)), none, none] []) (σ : Sg) (l4 : Int32) : GO X K 7 (lawQ K) (fL_law_400 L xs k23 σ l4) σ (cs + 0) (ss + 0) 400 [some (.ref b), some (.ref (X.ad 0)), some (.ref (X.ad 462)), some (.ref (X.ad 476)), some (.int (l4)), none, none] [] := by
  unfold fL_law_400
  refine g_aload_n (pc := 400) (i := 1) C dL_law_400 rfl rfl ?_
  refine g_callVi (pc := 401) (As := []) C (kX8_panes X σ) ok_dl rfl q_24_7 q_24_8 q_24_9 q_1_2 q_24_10 ⟨rfl, hdX8_panes⟩ ⟨Nat.le_of_ble_eq_true rfl, Nat.le_of_ble_eq_true rfl, rfl, rfl⟩ ⟨by show _ ≤ 600002; omega, by show _ ≤ 7302232; omega⟩ (Nat.le_of_ble_eq_true rfl) rfl rfl dL_law_401 (fun r86 _ => ?_)
  refine g_aload_n (pc := 404) (i := 2) C dL_law_404 rfl rfl ?_
  refine g_callVi (pc := 405) (As := []) C (kX9_panes X σ 462 ok_mo) (blk ok_mo 0 rfl) rfl q_24_11 q_24_12 q_24_13 q_1_5 q_24_14 ⟨rfl, hdX9_panes⟩ ⟨Nat.le_of_ble_eq_true rfl, Nat.le_of_ble_eq_true rfl, rfl, rfl⟩ ⟨by show _ ≤ 600002; omega, by show _ ≤ 7302232; omega⟩ (Nat.le_of_ble_eq_true rfl) rfl rfl dL_law_405 (fun r87 _ => ?_)
  refine g_icmp_eq (pc := 408) (tgt := 2086) C dL_law_408 rfl ?_ ?_
  · refine g_keep [true, true, true, true, true, false, false] ?_
    refine g_widen (cs' := cs + 12) (ss' := ss + 72) (by omega) (by omega) ?_
    exact bL_law_2086 C hr hfl hcs hk23 r87.2 l4
  · refine g_iconst (pc := 411) (v := 0) C dL_law_411 (by decide) ?_
    exact g_law_f
def fL_law_397 (L : Nat) (xs : Nat → Int32) (k23 : Sg → Int32 → Option Bool) (σ : Sg) (l4 : Int32) : Option Bool :=
  (fL_law_2086 L xs k23 σ l4)
theorem bL_law_397 {X : Xc} {K : Kc} {L b cs ss : Nat} {xs : Nat → Int32} (C : MC X K cL_law 7 RL room_1) (hr : LH X K b L xs) (hfl : X.l.stackTraces = false) (hcs : cs + 12 ≤ 600002 ∧ ss + 72 ≤ 7302232) {k23 : Sg → Int32 → Option Bool} (hk23 : ∀ (σ : Sg) (l4 : Int32), GO X K 7 (lawQ K) (k23 σ l4) σ (cs + 12) (ss + 72) 23 [some (.ref b), some (.ref (X.ad 0)), some (.ref (X.ad 462)), some (.ref (X.ad 476)), some (.int (l4)), none, none] []) (σ : Sg) (l4 : Int32) : GO X K 7 (lawQ K) (fL_law_397 L xs k23 σ l4) σ (cs + 12) (ss + 72) 397 [some (.ref b), some (.ref (X.ad 0)), some (.ref (X.ad 462)), some (.ref (X.ad 476)), some (.int (l4)), none, none] [] := by
  unfold fL_law_397
  refine g_goto (pc := 397) (tgt := 2086) C dL_law_397 rfl ?_
  refine g_keep [true, true, true, true, true, false, false] ?_
  refine g_widen (cs' := cs + 12) (ss' := ss + 72) (by omega) (by omega) ?_
  exact bL_law_2086 C hr hfl hcs hk23 σ l4
def fL_law_320 (L : Nat) (xs : Nat → Int32) (k23 : Sg → Int32 → Option Bool) (σ : Sg) (l4 : Int32) : Option Bool :=
  if ck (l4 + 1) L then
    if ck (l4 + 2) L then
      if ck (l4 + 3) L then
        (fL_setMinimum σ (xs (l4 + 1).toNatClampNeg) (xs (l4 + 2).toNatClampNeg) (xs (l4 + 3).toNatClampNeg) 476 1).bind fun r88 =>
        if ck (l4 + 1) L then
          if ck (l4 + 2) L then
            if ck (l4 + 3) L then
              (fX9_setMinimum r88.2 462 (xs (l4 + 1).toNatClampNeg) (xs (l4 + 2).toNatClampNeg) (xs (l4 + 3).toNatClampNeg)).bind fun r89 =>
              (fX9_thrown r89.2 462).bind fun r90 =>
              if r90 = r88.1 then
                if r88.1 = 0 then
                  if ck 0 1 then
                    if (lg_cmp (r89.2.2 476 (0 : Int32).toNatClampNeg) r89.1.toInt64) = 0 then
                      (fL_law_397 L xs k23 r89.2 l4)
                    else
                      some false
                  else none
                else
                  (fL_law_397 L xs k23 r89.2 l4)
              else
                some false
            else none
          else none
        else none
      else none
    else none
  else none
theorem bL_law_320 {X : Xc} {K : Kc} {L b cs ss : Nat} {xs : Nat → Int32} (C : MC X K cL_law 7 RL room_1) (hr : LH X K b L xs) (hfl : X.l.stackTraces = false) (hcs : cs + 12 ≤ 600002 ∧ ss + 72 ≤ 7302232) {k23 : Sg → Int32 → Option Bool} (hk23 : ∀ (σ : Sg) (l4 : Int32), GO X K 7 (lawQ K) (k23 σ l4) σ (cs + 12) (ss + 72) 23 [some (.ref b), some (.ref (X.ad 0)), some (.ref (X.ad 462)), some (.ref (X.ad 476)), some (.int (l4)), none, none] []) (σ : Sg) (l4 : Int32) : GO X K 7 (lawQ K) (fL_law_320 L xs k23 σ l4) σ (cs + 0) (ss + 0) 320 [some (.ref b), some (.ref (X.ad 0)), some (.ref (X.ad 462)), some (.ref (X.ad 476)), some (.int (l4)), none, none] [] := by
  unfold fL_law_320
  refine g_aload_n (pc := 320) (i := 1) C dL_law_320 rfl rfl ?_
  refine g_aload_n (pc := 321) (i := 0) C dL_law_321 rfl rfl ?_
  refine g_iload (pc := 322) C dL_law_322 rfl ?_
  refine g_iconst (pc := 324) (v := 1) C dL_law_324 (by decide) ?_
  refine g_iadd (pc := 325) C dL_law_325 ?_
  refine g_sld (pc := 326) C hr dL_law_326 ?_
  refine g_aload_n (pc := 327) (i := 0) C dL_law_327 rfl rfl ?_
  refine g_iload (pc := 328) C dL_law_328 rfl ?_
  refine g_iconst (pc := 330) (v := 2) C dL_law_330 (by decide) ?_
  refine g_iadd (pc := 331) C dL_law_331 ?_
  refine g_sld (pc := 332) C hr dL_law_332 ?_
  refine g_aload_n (pc := 333) (i := 0) C dL_law_333 rfl rfl ?_
  refine g_iload (pc := 334) C dL_law_334 rfl ?_
  refine g_iconst (pc := 336) (v := 3) C dL_law_336 (by decide) ?_
  refine g_iadd (pc := 337) C dL_law_337 ?_
  refine g_sld (pc := 338) C hr dL_law_338 ?_
  refine g_aload_n (pc := 339) (i := 3) C dL_law_339 rfl rfl ?_
  refine g_callHi (pc := 340) (As := [.ref (X.ad 0), .int (xs (l4 + 1).toNatClampNeg), .int (xs (l4 + 2).toNatClampNeg), .int (xs (l4 + 3).toNatClampNeg), .ref (X.ad 476)]) C (kL_setMinimum X σ (xs (l4 + 1).toNatClampNeg) (xs (l4 + 2).toNatClampNeg) (xs (l4 + 3).toNatClampNeg) 476 1 ok_out hfl) q_23_19 q_23_20 q_6_18 q_23_21 hdL_setMinimum ⟨Nat.le_of_ble_eq_true rfl, Nat.le_of_ble_eq_true rfl, rfl, rfl, by show _ ≤ 600002; omega, by show _ ≤ 7302232; omega⟩ (Nat.le_of_ble_eq_true rfl) rfl rfl dL_law_340 (fun r88 _ => ?_)
  refine g_istore (pc := 343) C dL_law_343 (Nat.le_of_ble_eq_true rfl) rfl ?_
  refine g_aload_n (pc := 345) (i := 2) C dL_law_345 rfl rfl ?_
  refine g_aload_n (pc := 346) (i := 0) C dL_law_346 rfl rfl ?_
  refine g_iload (pc := 347) C dL_law_347 rfl ?_
  refine g_iconst (pc := 349) (v := 1) C dL_law_349 (by decide) ?_
  refine g_iadd (pc := 350) C dL_law_350 ?_
  refine g_sld (pc := 351) C hr dL_law_351 ?_
  refine g_aload_n (pc := 352) (i := 0) C dL_law_352 rfl rfl ?_
  refine g_iload (pc := 353) C dL_law_353 rfl ?_
  refine g_iconst (pc := 355) (v := 2) C dL_law_355 (by decide) ?_
  refine g_iadd (pc := 356) C dL_law_356 ?_
  refine g_sld (pc := 357) C hr dL_law_357 ?_
  refine g_aload_n (pc := 358) (i := 0) C dL_law_358 rfl rfl ?_
  refine g_iload (pc := 359) C dL_law_359 rfl ?_
  refine g_iconst (pc := 361) (v := 3) C dL_law_361 (by decide) ?_
  refine g_iadd (pc := 362) C dL_law_362 ?_
  refine g_sld (pc := 363) C hr dL_law_363 ?_
  refine g_callVi (pc := 364) (As := [.int (xs (l4 + 1).toNatClampNeg), .int (xs (l4 + 2).toNatClampNeg), .int (xs (l4 + 3).toNatClampNeg)]) C (kX9_setMinimum X r88.2 462 (xs (l4 + 1).toNatClampNeg) (xs (l4 + 2).toNatClampNeg) (xs (l4 + 3).toNatClampNeg) ok_mo) (blk ok_mo 0 rfl) rfl q_24_3 q_24_4 q_24_5 q_1_5 q_24_6 ⟨rfl, hdX9_setMinimum⟩ ⟨Nat.le_of_ble_eq_true rfl, Nat.le_of_ble_eq_true rfl, rfl, rfl⟩ ⟨by show _ ≤ 600002; omega, by show _ ≤ 7302232; omega⟩ (Nat.le_of_ble_eq_true rfl) rfl rfl dL_law_364 (fun r89 _ => ?_)
  refine g_istore (pc := 367) C dL_law_367 (Nat.le_of_ble_eq_true rfl) rfl ?_
  refine g_aload_n (pc := 369) (i := 2) C dL_law_369 rfl rfl ?_
  refine g_callVi (pc := 370) (As := []) C (kX9_thrown X r89.2 462 ok_mo) (blk ok_mo 0 rfl) rfl q_10_23 q_11_0 q_11_1 q_1_5 q_11_2 ⟨rfl, hdX9_thrown⟩ ⟨Nat.le_of_ble_eq_true rfl, Nat.le_of_ble_eq_true rfl, rfl, rfl⟩ ⟨by show _ ≤ 600002; omega, by show _ ≤ 7302232; omega⟩ (Nat.le_of_ble_eq_true rfl) rfl rfl dL_law_370 (fun r90 _ => ?_)
  refine g_iload (pc := 373) C dL_law_373 rfl ?_
  refine g_icmp_eq (pc := 375) (tgt := 380) C dL_law_375 rfl ?_ ?_
  · refine g_iload (pc := 380) C dL_law_380 rfl ?_
    refine g_if_ne (pc := 382) (tgt := 397) C dL_law_382 rfl ?_ ?_
    · refine g_aload_n (pc := 385) (i := 3) C dL_law_385 rfl rfl ?_
      refine g_iconst (pc := 386) (v := 0) C dL_law_386 (by decide) ?_
      refine g_laload (pc := 387) C ok_out dL_law_387 ?_
      refine g_iload (pc := 388) C dL_law_388 rfl ?_
      refine g_i2l (pc := 390) C dL_law_390 ?_
      refine g_lcmp (pc := 391) C dL_law_391 ?_
      refine g_if_eq (pc := 392) (tgt := 397) C dL_law_392 rfl ?_ ?_
      · refine g_keep [true, true, true, true, true, false, false] ?_
        refine g_widen (cs' := cs + 12) (ss' := ss + 72) (by omega) (by omega) ?_
        exact bL_law_397 C hr hfl hcs hk23 r89.2 l4
      · refine g_iconst (pc := 395) (v := 0) C dL_law_395 (by decide) ?_
        exact g_law_f
    · refine g_keep [true, true, true, true, true, false, false] ?_
      refine g_widen (cs' := cs + 12) (ss' := ss + 72) (by omega) (by omega) ?_
      exact bL_law_397 C hr hfl hcs hk23 r89.2 l4
  · refine g_iconst (pc := 378) (v := 0) C dL_law_378 (by decide) ?_
    exact g_law_f
def fL_law_317 (L : Nat) (xs : Nat → Int32) (k23 : Sg → Int32 → Option Bool) (σ : Sg) (l4 : Int32) : Option Bool :=
  (fL_law_2086 L xs k23 σ l4)
theorem bL_law_317 {X : Xc} {K : Kc} {L b cs ss : Nat} {xs : Nat → Int32} (C : MC X K cL_law 7 RL room_1) (hr : LH X K b L xs) (hfl : X.l.stackTraces = false) (hcs : cs + 12 ≤ 600002 ∧ ss + 72 ≤ 7302232) {k23 : Sg → Int32 → Option Bool} (hk23 : ∀ (σ : Sg) (l4 : Int32), GO X K 7 (lawQ K) (k23 σ l4) σ (cs + 12) (ss + 72) 23 [some (.ref b), some (.ref (X.ad 0)), some (.ref (X.ad 462)), some (.ref (X.ad 476)), some (.int (l4)), none, none] []) (σ : Sg) (l4 : Int32) : GO X K 7 (lawQ K) (fL_law_317 L xs k23 σ l4) σ (cs + 12) (ss + 72) 317 [some (.ref b), some (.ref (X.ad 0)), some (.ref (X.ad 462)), some (.ref (X.ad 476)), some (.int (l4)), none, none] [] := by
  unfold fL_law_317
  refine g_goto (pc := 317) (tgt := 2086) C dL_law_317 rfl ?_
  refine g_keep [true, true, true, true, true, false, false] ?_
  refine g_widen (cs' := cs + 12) (ss' := ss + 72) (by omega) (by omega) ?_
  exact bL_law_2086 C hr hfl hcs hk23 σ l4
def fL_law_264 (L : Nat) (xs : Nat → Int32) (k23 : Sg → Int32 → Option Bool) (σ : Sg) (l4 : Int32) : Option Bool :=
  if ck (l4 + 1) L then
    (fL_remove σ (xs (l4 + 1).toNatClampNeg) 476 1).bind fun r91 =>
    if ck (l4 + 1) L then
      (fX9_remove r91.2 462 (xs (l4 + 1).toNatClampNeg)).bind fun r92 =>
      (fX9_thrown r92.2 462).bind fun r93 =>
      if r93 = r91.1 then
        if r91.1 = 0 then
          if ck 0 1 then
            if (lg_cmp (r92.2.2 476 (0 : Int32).toNatClampNeg) r92.1.toInt64) = 0 then
              (fL_law_317 L xs k23 r92.2 l4)
            else
              some false
          else none
        else
          (fL_law_317 L xs k23 r92.2 l4)
      else
        some false
    else none
  else none
theorem bL_law_264 {X : Xc} {K : Kc} {L b cs ss : Nat} {xs : Nat → Int32} (C : MC X K cL_law 7 RL room_1) (hr : LH X K b L xs) (hfl : X.l.stackTraces = false) (hcs : cs + 12 ≤ 600002 ∧ ss + 72 ≤ 7302232) {k23 : Sg → Int32 → Option Bool} (hk23 : ∀ (σ : Sg) (l4 : Int32), GO X K 7 (lawQ K) (k23 σ l4) σ (cs + 12) (ss + 72) 23 [some (.ref b), some (.ref (X.ad 0)), some (.ref (X.ad 462)), some (.ref (X.ad 476)), some (.int (l4)), none, none] []) (σ : Sg) (l4 : Int32) : GO X K 7 (lawQ K) (fL_law_264 L xs k23 σ l4) σ (cs + 0) (ss + 0) 264 [some (.ref b), some (.ref (X.ad 0)), some (.ref (X.ad 462)), some (.ref (X.ad 476)), some (.int (l4)), none, none] [] := by
  unfold fL_law_264
  refine g_aload_n (pc := 264) (i := 1) C dL_law_264 rfl rfl ?_
  refine g_aload_n (pc := 265) (i := 0) C dL_law_265 rfl rfl ?_
  refine g_iload (pc := 266) C dL_law_266 rfl ?_
  refine g_iconst (pc := 268) (v := 1) C dL_law_268 (by decide) ?_
  refine g_iadd (pc := 269) C dL_law_269 ?_
  refine g_sld (pc := 270) C hr dL_law_270 ?_
  refine g_aload_n (pc := 271) (i := 3) C dL_law_271 rfl rfl ?_
  refine g_callHi (pc := 272) (As := [.ref (X.ad 0), .int (xs (l4 + 1).toNatClampNeg), .ref (X.ad 476)]) C (kL_remove X σ (xs (l4 + 1).toNatClampNeg) 476 1 ok_out hfl) q_11_3 q_11_4 q_6_18 q_11_5 hdL_remove ⟨Nat.le_of_ble_eq_true rfl, Nat.le_of_ble_eq_true rfl, rfl, rfl, by show _ ≤ 600002; omega, by show _ ≤ 7302232; omega⟩ (Nat.le_of_ble_eq_true rfl) rfl rfl dL_law_272 (fun r91 _ => ?_)
  refine g_istore (pc := 275) C dL_law_275 (Nat.le_of_ble_eq_true rfl) rfl ?_
  refine g_aload_n (pc := 277) (i := 2) C dL_law_277 rfl rfl ?_
  refine g_aload_n (pc := 278) (i := 0) C dL_law_278 rfl rfl ?_
  refine g_iload (pc := 279) C dL_law_279 rfl ?_
  refine g_iconst (pc := 281) (v := 1) C dL_law_281 (by decide) ?_
  refine g_iadd (pc := 282) C dL_law_282 ?_
  refine g_sld (pc := 283) C hr dL_law_283 ?_
  refine g_callVi (pc := 284) (As := [.int (xs (l4 + 1).toNatClampNeg)]) C (kX9_remove X r91.2 462 (xs (l4 + 1).toNatClampNeg) ok_mo) (blk ok_mo 0 rfl) rfl q_19_16 q_19_17 q_19_18 q_1_5 q_19_19 ⟨rfl, hdX9_remove⟩ ⟨Nat.le_of_ble_eq_true rfl, Nat.le_of_ble_eq_true rfl, rfl, rfl⟩ ⟨by show _ ≤ 600002; omega, by show _ ≤ 7302232; omega⟩ (Nat.le_of_ble_eq_true rfl) rfl rfl dL_law_284 (fun r92 _ => ?_)
  refine g_istore (pc := 287) C dL_law_287 (Nat.le_of_ble_eq_true rfl) rfl ?_
  refine g_aload_n (pc := 289) (i := 2) C dL_law_289 rfl rfl ?_
  refine g_callVi (pc := 290) (As := []) C (kX9_thrown X r92.2 462 ok_mo) (blk ok_mo 0 rfl) rfl q_10_23 q_11_0 q_11_1 q_1_5 q_11_2 ⟨rfl, hdX9_thrown⟩ ⟨Nat.le_of_ble_eq_true rfl, Nat.le_of_ble_eq_true rfl, rfl, rfl⟩ ⟨by show _ ≤ 600002; omega, by show _ ≤ 7302232; omega⟩ (Nat.le_of_ble_eq_true rfl) rfl rfl dL_law_290 (fun r93 _ => ?_)
  refine g_iload (pc := 293) C dL_law_293 rfl ?_
  refine g_icmp_eq (pc := 295) (tgt := 300) C dL_law_295 rfl ?_ ?_
  · refine g_iload (pc := 300) C dL_law_300 rfl ?_
    refine g_if_ne (pc := 302) (tgt := 317) C dL_law_302 rfl ?_ ?_
    · refine g_aload_n (pc := 305) (i := 3) C dL_law_305 rfl rfl ?_
      refine g_iconst (pc := 306) (v := 0) C dL_law_306 (by decide) ?_
      refine g_laload (pc := 307) C ok_out dL_law_307 ?_
      refine g_iload (pc := 308) C dL_law_308 rfl ?_
      refine g_i2l (pc := 310) C dL_law_310 ?_
      refine g_lcmp (pc := 311) C dL_law_311 ?_
      refine g_if_eq (pc := 312) (tgt := 317) C dL_law_312 rfl ?_ ?_
      · refine g_keep [true, true, true, true, true, false, false] ?_
        refine g_widen (cs' := cs + 12) (ss' := ss + 72) (by omega) (by omega) ?_
        exact bL_law_317 C hr hfl hcs hk23 r92.2 l4
      · refine g_iconst (pc := 315) (v := 0) C dL_law_315 (by decide) ?_
        exact g_law_f
    · refine g_keep [true, true, true, true, true, false, false] ?_
      refine g_widen (cs' := cs + 12) (ss' := ss + 72) (by omega) (by omega) ?_
      exact bL_law_317 C hr hfl hcs hk23 r92.2 l4
  · refine g_iconst (pc := 298) (v := 0) C dL_law_298 (by decide) ?_
    exact g_law_f
def fL_law_261 (L : Nat) (xs : Nat → Int32) (k23 : Sg → Int32 → Option Bool) (σ : Sg) (l4 : Int32) : Option Bool :=
  (fL_law_2086 L xs k23 σ l4)
theorem bL_law_261 {X : Xc} {K : Kc} {L b cs ss : Nat} {xs : Nat → Int32} (C : MC X K cL_law 7 RL room_1) (hr : LH X K b L xs) (hfl : X.l.stackTraces = false) (hcs : cs + 12 ≤ 600002 ∧ ss + 72 ≤ 7302232) {k23 : Sg → Int32 → Option Bool} (hk23 : ∀ (σ : Sg) (l4 : Int32), GO X K 7 (lawQ K) (k23 σ l4) σ (cs + 12) (ss + 72) 23 [some (.ref b), some (.ref (X.ad 0)), some (.ref (X.ad 462)), some (.ref (X.ad 476)), some (.int (l4)), none, none] []) (σ : Sg) (l4 : Int32) : GO X K 7 (lawQ K) (fL_law_261 L xs k23 σ l4) σ (cs + 12) (ss + 72) 261 [some (.ref b), some (.ref (X.ad 0)), some (.ref (X.ad 462)), some (.ref (X.ad 476)), some (.int (l4)), none, none] [] := by
  unfold fL_law_261
  refine g_goto (pc := 261) (tgt := 2086) C dL_law_261 rfl ?_
  refine g_keep [true, true, true, true, true, false, false] ?_
  refine g_widen (cs' := cs + 12) (ss' := ss + 72) (by omega) (by omega) ?_
  exact bL_law_2086 C hr hfl hcs hk23 σ l4
def fL_law_196 (L : Nat) (xs : Nat → Int32) (k23 : Sg → Int32 → Option Bool) (σ : Sg) (l4 : Int32) : Option Bool :=
  if ck (l4 + 1) L then
    if ck (l4 + 2) L then
      (fL_create σ (xs (l4 + 1).toNatClampNeg) (xs (l4 + 2).toNatClampNeg) 476 1).bind fun r94 =>
      if ck (l4 + 1) L then
        if ck (l4 + 2) L then
          (fX9_create r94.2 462 (xs (l4 + 1).toNatClampNeg) (xs (l4 + 2).toNatClampNeg)).bind fun r95 =>
          (fX9_thrown r95.2 462).bind fun r96 =>
          if r96 = r94.1 then
            if r94.1 = 0 then
              if ck 0 1 then
                if (lg_cmp (r95.2.2 476 (0 : Int32).toNatClampNeg) r95.1.toInt64) = 0 then
                  (fL_law_261 L xs k23 r95.2 l4)
                else
                  some false
              else none
            else
              (fL_law_261 L xs k23 r95.2 l4)
          else
            some false
        else none
      else none
    else none
  else none
theorem bL_law_196 {X : Xc} {K : Kc} {L b cs ss : Nat} {xs : Nat → Int32} (C : MC X K cL_law 7 RL room_1) (hr : LH X K b L xs) (hfl : X.l.stackTraces = false) (hcs : cs + 12 ≤ 600002 ∧ ss + 72 ≤ 7302232) {k23 : Sg → Int32 → Option Bool} (hk23 : ∀ (σ : Sg) (l4 : Int32), GO X K 7 (lawQ K) (k23 σ l4) σ (cs + 12) (ss + 72) 23 [some (.ref b), some (.ref (X.ad 0)), some (.ref (X.ad 462)), some (.ref (X.ad 476)), some (.int (l4)), none, none] []) (σ : Sg) (l4 : Int32) : GO X K 7 (lawQ K) (fL_law_196 L xs k23 σ l4) σ (cs + 0) (ss + 0) 196 [some (.ref b), some (.ref (X.ad 0)), some (.ref (X.ad 462)), some (.ref (X.ad 476)), some (.int (l4)), none, none] [] := by
  unfold fL_law_196
  refine g_aload_n (pc := 196) (i := 1) C dL_law_196 rfl rfl ?_
  refine g_aload_n (pc := 197) (i := 0) C dL_law_197 rfl rfl ?_
  refine g_iload (pc := 198) C dL_law_198 rfl ?_
  refine g_iconst (pc := 200) (v := 1) C dL_law_200 (by decide) ?_
  refine g_iadd (pc := 201) C dL_law_201 ?_
  refine g_sld (pc := 202) C hr dL_law_202 ?_
  refine g_aload_n (pc := 203) (i := 0) C dL_law_203 rfl rfl ?_
  refine g_iload (pc := 204) C dL_law_204 rfl ?_
  refine g_iconst (pc := 206) (v := 2) C dL_law_206 (by decide) ?_
  refine g_iadd (pc := 207) C dL_law_207 ?_
  refine g_sld (pc := 208) C hr dL_law_208 ?_
  refine g_aload_n (pc := 209) (i := 3) C dL_law_209 rfl rfl ?_
  refine g_callHi (pc := 210) (As := [.ref (X.ad 0), .int (xs (l4 + 1).toNatClampNeg), .int (xs (l4 + 2).toNatClampNeg), .ref (X.ad 476)]) C (kL_create X σ (xs (l4 + 1).toNatClampNeg) (xs (l4 + 2).toNatClampNeg) 476 1 ok_out hfl) q_6_16 q_6_17 q_6_18 q_6_19 hdL_create ⟨Nat.le_of_ble_eq_true rfl, Nat.le_of_ble_eq_true rfl, rfl, rfl, by show _ ≤ 600002; omega, by show _ ≤ 7302232; omega⟩ (Nat.le_of_ble_eq_true rfl) rfl rfl dL_law_210 (fun r94 _ => ?_)
  refine g_istore (pc := 213) C dL_law_213 (Nat.le_of_ble_eq_true rfl) rfl ?_
  refine g_aload_n (pc := 215) (i := 2) C dL_law_215 rfl rfl ?_
  refine g_aload_n (pc := 216) (i := 0) C dL_law_216 rfl rfl ?_
  refine g_iload (pc := 217) C dL_law_217 rfl ?_
  refine g_iconst (pc := 219) (v := 1) C dL_law_219 (by decide) ?_
  refine g_iadd (pc := 220) C dL_law_220 ?_
  refine g_sld (pc := 221) C hr dL_law_221 ?_
  refine g_aload_n (pc := 222) (i := 0) C dL_law_222 rfl rfl ?_
  refine g_iload (pc := 223) C dL_law_223 rfl ?_
  refine g_iconst (pc := 225) (v := 2) C dL_law_225 (by decide) ?_
  refine g_iadd (pc := 226) C dL_law_226 ?_
  refine g_sld (pc := 227) C hr dL_law_227 ?_
  refine g_callVi (pc := 228) (As := [.int (xs (l4 + 1).toNatClampNeg), .int (xs (l4 + 2).toNatClampNeg)]) C (kX9_create X r94.2 462 (xs (l4 + 1).toNatClampNeg) (xs (l4 + 2).toNatClampNeg) ok_mo) (blk ok_mo 0 rfl) rfl q_9_22 q_9_23 q_10_0 q_1_5 q_10_1 ⟨rfl, hdX9_create⟩ ⟨Nat.le_of_ble_eq_true rfl, Nat.le_of_ble_eq_true rfl, rfl, rfl⟩ ⟨by show _ ≤ 600002; omega, by show _ ≤ 7302232; omega⟩ (Nat.le_of_ble_eq_true rfl) rfl rfl dL_law_228 (fun r95 _ => ?_)
  refine g_istore (pc := 231) C dL_law_231 (Nat.le_of_ble_eq_true rfl) rfl ?_
  refine g_aload_n (pc := 233) (i := 2) C dL_law_233 rfl rfl ?_
  refine g_callVi (pc := 234) (As := []) C (kX9_thrown X r95.2 462 ok_mo) (blk ok_mo 0 rfl) rfl q_10_23 q_11_0 q_11_1 q_1_5 q_11_2 ⟨rfl, hdX9_thrown⟩ ⟨Nat.le_of_ble_eq_true rfl, Nat.le_of_ble_eq_true rfl, rfl, rfl⟩ ⟨by show _ ≤ 600002; omega, by show _ ≤ 7302232; omega⟩ (Nat.le_of_ble_eq_true rfl) rfl rfl dL_law_234 (fun r96 _ => ?_)
  refine g_iload (pc := 237) C dL_law_237 rfl ?_
  refine g_icmp_eq (pc := 239) (tgt := 244) C dL_law_239 rfl ?_ ?_
  · refine g_iload (pc := 244) C dL_law_244 rfl ?_
    refine g_if_ne (pc := 246) (tgt := 261) C dL_law_246 rfl ?_ ?_
    · refine g_aload_n (pc := 249) (i := 3) C dL_law_249 rfl rfl ?_
      refine g_iconst (pc := 250) (v := 0) C dL_law_250 (by decide) ?_
      refine g_laload (pc := 251) C ok_out dL_law_251 ?_
      refine g_iload (pc := 252) C dL_law_252 rfl ?_
      refine g_i2l (pc := 254) C dL_law_254 ?_
      refine g_lcmp (pc := 255) C dL_law_255 ?_
      refine g_if_eq (pc := 256) (tgt := 261) C dL_law_256 rfl ?_ ?_
      · refine g_keep [true, true, true, true, true, false, false] ?_
        refine g_widen (cs' := cs + 12) (ss' := ss + 72) (by omega) (by omega) ?_
        exact bL_law_261 C hr hfl hcs hk23 r95.2 l4
      · refine g_iconst (pc := 259) (v := 0) C dL_law_259 (by decide) ?_
        exact g_law_f
    · refine g_keep [true, true, true, true, true, false, false] ?_
      refine g_widen (cs' := cs + 12) (ss' := ss + 72) (by omega) (by omega) ?_
      exact bL_law_261 C hr hfl hcs hk23 r95.2 l4
  · refine g_iconst (pc := 242) (v := 0) C dL_law_242 (by decide) ?_
    exact g_law_f
def fL_law_23 (L : Nat) (xs : Nat → Int32) (k23 : Sg → Int32 → Option Bool) (σ : Sg) (l4 : Int32) : Option Bool :=
  if ((nI L) - 6) < l4 then
    some true
  else
    if ck l4 L then
      nm ((xs l4.toNatClampNeg) &&& 63) fun v1 =>
      if v1 = 0 then
        (fL_law_196 L xs k23 σ l4)
      else if v1 = 1 then
        (fL_law_264 L xs k23 σ l4)
      else if v1 = 2 then
        (fL_law_320 L xs k23 σ l4)
      else if v1 = 3 then
        (fL_law_400 L xs k23 σ l4)
      else if v1 = 4 then
        (fL_law_413 L xs k23 σ l4)
      else if v1 = 5 then
        (fL_law_481 L xs k23 σ l4)
      else if v1 = 6 then
        (fL_law_549 L xs k23 σ l4)
      else if v1 = 7 then
        (fL_law_617 L xs k23 σ l4)
      else if v1 = 8 then
        (fL_law_697 L xs k23 σ l4)
      else if v1 = 9 then
        (fL_law_777 L xs k23 σ l4)
      else if v1 = 10 then
        (fL_law_833 L xs k23 σ l4)
      else if v1 = 11 then
        (fL_law_901 L xs k23 σ l4)
      else if v1 = 12 then
        (fL_law_926 L xs k23 σ l4)
      else if v1 = 13 then
        (fL_law_1006 L xs k23 σ l4)
      else if v1 = 14 then
        (fL_law_1062 L xs k23 σ l4)
      else if v1 = 15 then
        (fL_law_1166 L xs k23 σ l4)
      else if v1 = 16 then
        (fL_law_1222 L xs k23 σ l4)
      else if v1 = 17 then
        (fL_law_1313 L xs k23 σ l4)
      else if v1 = 18 then
        (fL_law_1369 L xs k23 σ l4)
      else if v1 = 19 then
        (fL_law_1437 L xs k23 σ l4)
      else if v1 = 20 then
        (fL_law_1517 L xs k23 σ l4)
      else if v1 = 21 then
        (fL_law_1573 L xs k23 σ l4)
      else if v1 = 22 then
        (fL_law_1598 L xs k23 σ l4)
      else if v1 = 23 then
        (fL_law_1635 L xs k23 σ l4)
      else if v1 = 24 then
        (fL_law_1672 L xs k23 σ l4)
      else if v1 = 25 then
        (fL_law_1709 L xs k23 σ l4)
      else if v1 = 26 then
        (fL_law_1765 L xs k23 σ l4)
      else if v1 = 27 then
        (fL_law_1821 L xs k23 σ l4)
      else if v1 = 28 then
        (fL_law_1877 L xs k23 σ l4)
      else if v1 = 29 then
        (fL_law_1890 L xs k23 σ l4)
      else if v1 = 30 then
        (fL_law_1903 L xs k23 σ l4)
      else if v1 = 31 then
        (fL_law_1947 L xs k23 σ l4)
      else if v1 = 32 then
        (fL_law_2003 L xs k23 σ l4)
      else if v1 = 33 then
        (fL_law_2028 L xs k23 σ l4)
      else if v1 = 34 then
        (fL_law_2072 L xs k23 σ l4)
      else 
        (fL_law_2086 L xs k23 σ l4)
    else none
theorem bL_law_23 {X : Xc} {K : Kc} {L b cs ss : Nat} {xs : Nat → Int32} (C : MC X K cL_law 7 RL room_1) (hr : LH X K b L xs) (hfl : X.l.stackTraces = false) (hcs : cs + 12 ≤ 600002 ∧ ss + 72 ≤ 7302232) {k23 : Sg → Int32 → Option Bool} (hk23 : ∀ (σ : Sg) (l4 : Int32), GO X K 7 (lawQ K) (k23 σ l4) σ (cs + 12) (ss + 72) 23 [some (.ref b), some (.ref (X.ad 0)), some (.ref (X.ad 462)), some (.ref (X.ad 476)), some (.int (l4)), none, none] []) (σ : Sg) (l4 : Int32) : GO X K 7 (lawQ K) (fL_law_23 L xs k23 σ l4) σ (cs + 0) (ss + 0) 23 [some (.ref b), some (.ref (X.ad 0)), some (.ref (X.ad 462)), some (.ref (X.ad 476)), some (.int (l4)), none, none] [] := by
  unfold fL_law_23
  refine g_iload (pc := 23) C dL_law_23 rfl ?_
  refine g_aload_n (pc := 25) (i := 0) C dL_law_25 rfl rfl ?_
  refine g_slen (pc := 26) C hr dL_law_26 ?_
  refine g_bipush (pc := 27) (v := 6) C dL_law_27 (by decide) ?_
  refine g_isub (pc := 29) C dL_law_29 ?_
  refine g_icmp_gt (pc := 30) (tgt := 2092) C dL_law_30 rfl ?_ ?_
  · refine g_iconst (pc := 2092) (v := 1) C dL_law_2092 (by decide) ?_
    exact g_law_t (pc := 2093) C hr (by omega) (by omega) dL_law_2093
  · refine g_aload_n (pc := 33) (i := 0) C dL_law_33 rfl rfl ?_
    refine g_iload (pc := 34) C dL_law_34 rfl ?_
    refine g_sld (pc := 36) C hr dL_law_36 ?_
    refine g_bipush (pc := 37) (v := 63) C dL_law_37 (by decide) ?_
    refine g_iand (pc := 39) C dL_law_39 ?_
    refine g_nm (fun v1 => ?_)
    refine g_ite (fun hz => ?_) (fun hz0 => ?_)
    · refine g_tabin (pc := 40) (tgt := 196) (z := 0) C dL_law_40 hz (by decide) (by decide) rfl rfl ?_
      refine g_keep [true, true, true, true, true, false, false] ?_
      refine g_widen (cs' := cs + 0) (ss' := ss + 0) (by omega) (by omega) ?_
      exact bL_law_196 C hr hfl hcs hk23 σ l4
    refine g_ite (fun hz => ?_) (fun hz1 => ?_)
    · refine g_tabin (pc := 40) (tgt := 264) (z := 1) C dL_law_40 hz (by decide) (by decide) rfl rfl ?_
      refine g_keep [true, true, true, true, true, false, false] ?_
      refine g_widen (cs' := cs + 0) (ss' := ss + 0) (by omega) (by omega) ?_
      exact bL_law_264 C hr hfl hcs hk23 σ l4
    refine g_ite (fun hz => ?_) (fun hz2 => ?_)
    · refine g_tabin (pc := 40) (tgt := 320) (z := 2) C dL_law_40 hz (by decide) (by decide) rfl rfl ?_
      refine g_keep [true, true, true, true, true, false, false] ?_
      refine g_widen (cs' := cs + 0) (ss' := ss + 0) (by omega) (by omega) ?_
      exact bL_law_320 C hr hfl hcs hk23 σ l4
    refine g_ite (fun hz => ?_) (fun hz3 => ?_)
    · refine g_tabin (pc := 40) (tgt := 400) (z := 3) C dL_law_40 hz (by decide) (by decide) rfl rfl ?_
      refine g_keep [true, true, true, true, true, false, false] ?_
      refine g_widen (cs' := cs + 0) (ss' := ss + 0) (by omega) (by omega) ?_
      exact bL_law_400 C hr hfl hcs hk23 σ l4
    refine g_ite (fun hz => ?_) (fun hz4 => ?_)
    · refine g_tabin (pc := 40) (tgt := 413) (z := 4) C dL_law_40 hz (by decide) (by decide) rfl rfl ?_
      refine g_keep [true, true, true, true, true, false, false] ?_
      refine g_widen (cs' := cs + 0) (ss' := ss + 0) (by omega) (by omega) ?_
      exact bL_law_413 C hr hfl hcs hk23 σ l4
    refine g_ite (fun hz => ?_) (fun hz5 => ?_)
    · refine g_tabin (pc := 40) (tgt := 481) (z := 5) C dL_law_40 hz (by decide) (by decide) rfl rfl ?_
      refine g_keep [true, true, true, true, true, false, false] ?_
      refine g_widen (cs' := cs + 0) (ss' := ss + 0) (by omega) (by omega) ?_
      exact bL_law_481 C hr hfl hcs hk23 σ l4
    refine g_ite (fun hz => ?_) (fun hz6 => ?_)
    · refine g_tabin (pc := 40) (tgt := 549) (z := 6) C dL_law_40 hz (by decide) (by decide) rfl rfl ?_
      refine g_keep [true, true, true, true, true, false, false] ?_
      refine g_widen (cs' := cs + 0) (ss' := ss + 0) (by omega) (by omega) ?_
      exact bL_law_549 C hr hfl hcs hk23 σ l4
    refine g_ite (fun hz => ?_) (fun hz7 => ?_)
    · refine g_tabin (pc := 40) (tgt := 617) (z := 7) C dL_law_40 hz (by decide) (by decide) rfl rfl ?_
      refine g_keep [true, true, true, true, true, false, false] ?_
      refine g_widen (cs' := cs + 0) (ss' := ss + 0) (by omega) (by omega) ?_
      exact bL_law_617 C hr hfl hcs hk23 σ l4
    refine g_ite (fun hz => ?_) (fun hz8 => ?_)
    · refine g_tabin (pc := 40) (tgt := 697) (z := 8) C dL_law_40 hz (by decide) (by decide) rfl rfl ?_
      refine g_keep [true, true, true, true, true, false, false] ?_
      refine g_widen (cs' := cs + 0) (ss' := ss + 0) (by omega) (by omega) ?_
      exact bL_law_697 C hr hfl hcs hk23 σ l4
    refine g_ite (fun hz => ?_) (fun hz9 => ?_)
    · refine g_tabin (pc := 40) (tgt := 777) (z := 9) C dL_law_40 hz (by decide) (by decide) rfl rfl ?_
      refine g_keep [true, true, true, true, true, false, false] ?_
      refine g_widen (cs' := cs + 0) (ss' := ss + 0) (by omega) (by omega) ?_
      exact bL_law_777 C hr hfl hcs hk23 σ l4
    refine g_ite (fun hz => ?_) (fun hz10 => ?_)
    · refine g_tabin (pc := 40) (tgt := 833) (z := 10) C dL_law_40 hz (by decide) (by decide) rfl rfl ?_
      refine g_keep [true, true, true, true, true, false, false] ?_
      refine g_widen (cs' := cs + 0) (ss' := ss + 0) (by omega) (by omega) ?_
      exact bL_law_833 C hr hfl hcs hk23 σ l4
    refine g_ite (fun hz => ?_) (fun hz11 => ?_)
    · refine g_tabin (pc := 40) (tgt := 901) (z := 11) C dL_law_40 hz (by decide) (by decide) rfl rfl ?_
      refine g_keep [true, true, true, true, true, false, false] ?_
      refine g_widen (cs' := cs + 0) (ss' := ss + 0) (by omega) (by omega) ?_
      exact bL_law_901 C hr hfl hcs hk23 σ l4
    refine g_ite (fun hz => ?_) (fun hz12 => ?_)
    · refine g_tabin (pc := 40) (tgt := 926) (z := 12) C dL_law_40 hz (by decide) (by decide) rfl rfl ?_
      refine g_keep [true, true, true, true, true, false, false] ?_
      refine g_widen (cs' := cs + 0) (ss' := ss + 0) (by omega) (by omega) ?_
      exact bL_law_926 C hr hfl hcs hk23 σ l4
    refine g_ite (fun hz => ?_) (fun hz13 => ?_)
    · refine g_tabin (pc := 40) (tgt := 1006) (z := 13) C dL_law_40 hz (by decide) (by decide) rfl rfl ?_
      refine g_keep [true, true, true, true, true, false, false] ?_
      refine g_widen (cs' := cs + 0) (ss' := ss + 0) (by omega) (by omega) ?_
      exact bL_law_1006 C hr hfl hcs hk23 σ l4
    refine g_ite (fun hz => ?_) (fun hz14 => ?_)
    · refine g_tabin (pc := 40) (tgt := 1062) (z := 14) C dL_law_40 hz (by decide) (by decide) rfl rfl ?_
      refine g_keep [true, true, true, true, true, false, false] ?_
      refine g_widen (cs' := cs + 0) (ss' := ss + 0) (by omega) (by omega) ?_
      exact bL_law_1062 C hr hfl hcs hk23 σ l4
    refine g_ite (fun hz => ?_) (fun hz15 => ?_)
    · refine g_tabin (pc := 40) (tgt := 1166) (z := 15) C dL_law_40 hz (by decide) (by decide) rfl rfl ?_
      refine g_keep [true, true, true, true, true, false, false] ?_
      refine g_widen (cs' := cs + 0) (ss' := ss + 0) (by omega) (by omega) ?_
      exact bL_law_1166 C hr hfl hcs hk23 σ l4
    refine g_ite (fun hz => ?_) (fun hz16 => ?_)
    · refine g_tabin (pc := 40) (tgt := 1222) (z := 16) C dL_law_40 hz (by decide) (by decide) rfl rfl ?_
      refine g_keep [true, true, true, true, true, false, false] ?_
      refine g_widen (cs' := cs + 0) (ss' := ss + 0) (by omega) (by omega) ?_
      exact bL_law_1222 C hr hfl hcs hk23 σ l4
    refine g_ite (fun hz => ?_) (fun hz17 => ?_)
    · refine g_tabin (pc := 40) (tgt := 1313) (z := 17) C dL_law_40 hz (by decide) (by decide) rfl rfl ?_
      refine g_keep [true, true, true, true, true, false, false] ?_
      refine g_widen (cs' := cs + 0) (ss' := ss + 0) (by omega) (by omega) ?_
      exact bL_law_1313 C hr hfl hcs hk23 σ l4
    refine g_ite (fun hz => ?_) (fun hz18 => ?_)
    · refine g_tabin (pc := 40) (tgt := 1369) (z := 18) C dL_law_40 hz (by decide) (by decide) rfl rfl ?_
      refine g_keep [true, true, true, true, true, false, false] ?_
      refine g_widen (cs' := cs + 0) (ss' := ss + 0) (by omega) (by omega) ?_
      exact bL_law_1369 C hr hfl hcs hk23 σ l4
    refine g_ite (fun hz => ?_) (fun hz19 => ?_)
    · refine g_tabin (pc := 40) (tgt := 1437) (z := 19) C dL_law_40 hz (by decide) (by decide) rfl rfl ?_
      refine g_keep [true, true, true, true, true, false, false] ?_
      refine g_widen (cs' := cs + 0) (ss' := ss + 0) (by omega) (by omega) ?_
      exact bL_law_1437 C hr hfl hcs hk23 σ l4
    refine g_ite (fun hz => ?_) (fun hz20 => ?_)
    · refine g_tabin (pc := 40) (tgt := 1517) (z := 20) C dL_law_40 hz (by decide) (by decide) rfl rfl ?_
      refine g_keep [true, true, true, true, true, false, false] ?_
      refine g_widen (cs' := cs + 0) (ss' := ss + 0) (by omega) (by omega) ?_
      exact bL_law_1517 C hr hfl hcs hk23 σ l4
    refine g_ite (fun hz => ?_) (fun hz21 => ?_)
    · refine g_tabin (pc := 40) (tgt := 1573) (z := 21) C dL_law_40 hz (by decide) (by decide) rfl rfl ?_
      refine g_keep [true, true, true, true, true, false, false] ?_
      refine g_widen (cs' := cs + 0) (ss' := ss + 0) (by omega) (by omega) ?_
      exact bL_law_1573 C hr hfl hcs hk23 σ l4
    refine g_ite (fun hz => ?_) (fun hz22 => ?_)
    · refine g_tabin (pc := 40) (tgt := 1598) (z := 22) C dL_law_40 hz (by decide) (by decide) rfl rfl ?_
      refine g_keep [true, true, true, true, true, false, false] ?_
      refine g_widen (cs' := cs + 0) (ss' := ss + 0) (by omega) (by omega) ?_
      exact bL_law_1598 C hr hfl hcs hk23 σ l4
    refine g_ite (fun hz => ?_) (fun hz23 => ?_)
    · refine g_tabin (pc := 40) (tgt := 1635) (z := 23) C dL_law_40 hz (by decide) (by decide) rfl rfl ?_
      refine g_keep [true, true, true, true, true, false, false] ?_
      refine g_widen (cs' := cs + 0) (ss' := ss + 0) (by omega) (by omega) ?_
      exact bL_law_1635 C hr hfl hcs hk23 σ l4
    refine g_ite (fun hz => ?_) (fun hz24 => ?_)
    · refine g_tabin (pc := 40) (tgt := 1672) (z := 24) C dL_law_40 hz (by decide) (by decide) rfl rfl ?_
      refine g_keep [true, true, true, true, true, false, false] ?_
      refine g_widen (cs' := cs + 0) (ss' := ss + 0) (by omega) (by omega) ?_
      exact bL_law_1672 C hr hfl hcs hk23 σ l4
    refine g_ite (fun hz => ?_) (fun hz25 => ?_)
    · refine g_tabin (pc := 40) (tgt := 1709) (z := 25) C dL_law_40 hz (by decide) (by decide) rfl rfl ?_
      refine g_keep [true, true, true, true, true, false, false] ?_
      refine g_widen (cs' := cs + 0) (ss' := ss + 0) (by omega) (by omega) ?_
      exact bL_law_1709 C hr hfl hcs hk23 σ l4
    refine g_ite (fun hz => ?_) (fun hz26 => ?_)
    · refine g_tabin (pc := 40) (tgt := 1765) (z := 26) C dL_law_40 hz (by decide) (by decide) rfl rfl ?_
      refine g_keep [true, true, true, true, true, false, false] ?_
      refine g_widen (cs' := cs + 0) (ss' := ss + 0) (by omega) (by omega) ?_
      exact bL_law_1765 C hr hfl hcs hk23 σ l4
    refine g_ite (fun hz => ?_) (fun hz27 => ?_)
    · refine g_tabin (pc := 40) (tgt := 1821) (z := 27) C dL_law_40 hz (by decide) (by decide) rfl rfl ?_
      refine g_keep [true, true, true, true, true, false, false] ?_
      refine g_widen (cs' := cs + 0) (ss' := ss + 0) (by omega) (by omega) ?_
      exact bL_law_1821 C hr hfl hcs hk23 σ l4
    refine g_ite (fun hz => ?_) (fun hz28 => ?_)
    · refine g_tabin (pc := 40) (tgt := 1877) (z := 28) C dL_law_40 hz (by decide) (by decide) rfl rfl ?_
      refine g_keep [true, true, true, true, true, false, false] ?_
      refine g_widen (cs' := cs + 0) (ss' := ss + 0) (by omega) (by omega) ?_
      exact bL_law_1877 C hr hfl hcs hk23 σ l4
    refine g_ite (fun hz => ?_) (fun hz29 => ?_)
    · refine g_tabin (pc := 40) (tgt := 1890) (z := 29) C dL_law_40 hz (by decide) (by decide) rfl rfl ?_
      refine g_keep [true, true, true, true, true, false, false] ?_
      refine g_widen (cs' := cs + 0) (ss' := ss + 0) (by omega) (by omega) ?_
      exact bL_law_1890 C hr hfl hcs hk23 σ l4
    refine g_ite (fun hz => ?_) (fun hz30 => ?_)
    · refine g_tabin (pc := 40) (tgt := 1903) (z := 30) C dL_law_40 hz (by decide) (by decide) rfl rfl ?_
      refine g_keep [true, true, true, true, true, false, false] ?_
      refine g_widen (cs' := cs + 0) (ss' := ss + 0) (by omega) (by omega) ?_
      exact bL_law_1903 C hr hfl hcs hk23 σ l4
    refine g_ite (fun hz => ?_) (fun hz31 => ?_)
    · refine g_tabin (pc := 40) (tgt := 1947) (z := 31) C dL_law_40 hz (by decide) (by decide) rfl rfl ?_
      refine g_keep [true, true, true, true, true, false, false] ?_
      refine g_widen (cs' := cs + 0) (ss' := ss + 0) (by omega) (by omega) ?_
      exact bL_law_1947 C hr hfl hcs hk23 σ l4
    refine g_ite (fun hz => ?_) (fun hz32 => ?_)
    · refine g_tabin (pc := 40) (tgt := 2003) (z := 32) C dL_law_40 hz (by decide) (by decide) rfl rfl ?_
      refine g_keep [true, true, true, true, true, false, false] ?_
      refine g_widen (cs' := cs + 0) (ss' := ss + 0) (by omega) (by omega) ?_
      exact bL_law_2003 C hr hfl hcs hk23 σ l4
    refine g_ite (fun hz => ?_) (fun hz33 => ?_)
    · refine g_tabin (pc := 40) (tgt := 2028) (z := 33) C dL_law_40 hz (by decide) (by decide) rfl rfl ?_
      refine g_keep [true, true, true, true, true, false, false] ?_
      refine g_widen (cs' := cs + 0) (ss' := ss + 0) (by omega) (by omega) ?_
      exact bL_law_2028 C hr hfl hcs hk23 σ l4
    refine g_ite (fun hz => ?_) (fun hz34 => ?_)
    · refine g_tabin (pc := 40) (tgt := 2072) (z := 34) C dL_law_40 hz (by decide) (by decide) rfl rfl ?_
      refine g_keep [true, true, true, true, true, false, false] ?_
      refine g_widen (cs' := cs + 0) (ss' := ss + 0) (by omega) (by omega) ?_
      exact bL_law_2072 C hr hfl hcs hk23 σ l4
    refine g_tabout (pc := 40) (tgt := 2086) C dL_law_40 (tsw_out0_34 hz0 hz1 hz2 hz3 hz4 hz5 hz6 hz7 hz8 hz9 hz10 hz11 hz12 hz13 hz14 hz15 hz16 hz17 hz18 hz19 hz20 hz21 hz22 hz23 hz24 hz25 hz26 hz27 hz28 hz29 hz30 hz31 hz32 hz33 hz34) rfl ?_
    refine g_keep [true, true, true, true, true, false, false] ?_
    refine g_widen (cs' := cs + 12) (ss' := ss + 72) (by omega) (by omega) ?_
    exact bL_law_2086 C hr hfl hcs hk23 σ l4
def fL_loop (L : Nat) (xs : Nat → Int32) : Nat → Sg → Int32 → Option Bool
  | 0, _, _ => none
  | n + 1, σ, l4 => fL_law_23 L xs (fL_loop L xs n) σ l4
theorem bL_loop {X : Xc} {K : Kc} {L b : Nat} {xs : Nat → Int32} (C : MC X K cL_law 7 RL room_1) (hr : LH X K b L xs) (hfl : X.l.stackTraces = false) : ∀ (n : Nat) (σ : Sg) (l4 : Int32) (cs ss : Nat), cs + n * 12 ≤ 600002 → ss + n * 72 ≤ 7302232 → GO X K 7 (lawQ K) (fL_loop L xs n σ l4) σ cs ss 23 [some (.ref b), some (.ref (X.ad 0)), some (.ref (X.ad 462)), some (.ref (X.ad 476)), some (.int (l4)), none, none] [] := by
  intro n
  induction n with
  | zero =>
    intro σ l4 cs ss _ _
    exact g_none
  | succ n ih =>
    intro σ l4 cs ss h1 h2
    exact bL_law_23 (cs := cs) (ss := ss) C hr hfl ⟨by omega, by omega⟩ (fun σ l4 => ih σ l4 _ _ (by omega) (by omega)) σ l4
