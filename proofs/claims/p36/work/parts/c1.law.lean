/-! the body of the law, walked by program; its loop by hand behind -/
theorem dL_law_0 : decode cL_law 0 = .ok (.new 8, 3) := by decide +kernel
theorem dL_law_3 : decode cL_law 3 = .ok (.dup, 1) := by decide +kernel
theorem dL_law_4 : decode cL_law 4 = .ok (.invokespecial 96, 3) := by decide +kernel
theorem dL_law_7 : decode cL_law 7 = .ok (.astore_n 1, 1) := by decide +kernel
theorem dL_law_8 : decode cL_law 8 = .ok (.new 97, 3) := by decide +kernel
theorem dL_law_11 : decode cL_law 11 = .ok (.dup, 1) := by decide +kernel
theorem dL_law_12 : decode cL_law 12 = .ok (.invokespecial 99, 3) := by decide +kernel
theorem dL_law_15 : decode cL_law 15 = .ok (.astore_n 2, 1) := by decide +kernel
theorem dL_law_16 : decode cL_law 16 = .ok (.iconst 1, 1) := by decide +kernel
theorem dL_law_17 : decode cL_law 17 = .ok (.newarray .long, 2) := by decide +kernel
theorem dL_law_19 : decode cL_law 19 = .ok (.astore_n 3, 1) := by decide +kernel
theorem dL_law_20 : decode cL_law 20 = .ok (.iconst 0, 1) := by decide +kernel
theorem dL_law_21 : decode cL_law 21 = .ok (.istore 4, 2) := by decide +kernel
theorem dL_law_23 : decode cL_law 23 = .ok (.iload 4, 2) := by decide +kernel
theorem dL_law_25 : decode cL_law 25 = .ok (.aload_n 0, 1) := by decide +kernel
theorem dL_law_26 : decode cL_law 26 = .ok (.arraylength, 1) := by decide +kernel
theorem dL_law_27 : decode cL_law 27 = .ok (.bipush 6, 2) := by decide +kernel
theorem dL_law_29 : decode cL_law 29 = .ok (.isub, 1) := by decide +kernel
theorem dL_law_30 : decode cL_law 30 = .ok (.if_icmp .gt 1355, 3) := by decide +kernel
theorem dL_law_33 : decode cL_law 33 = .ok (.aload_n 0, 1) := by decide +kernel
theorem dL_law_34 : decode cL_law 34 = .ok (.iload 4, 2) := by decide +kernel
theorem dL_law_36 : decode cL_law 36 = .ok (.iaload, 1) := by decide +kernel
theorem dL_law_37 : decode cL_law 37 = .ok (.bipush 63, 2) := by decide +kernel
theorem dL_law_39 : decode cL_law 39 = .ok (.iand, 1) := by decide +kernel
theorem dL_law_40 : decode cL_law 40 = .ok (.tableswitch 1339 0 34 #[156, 196, 224, 276, 289, 329, 369, 409, 461, 513, 541, 581, 606, 658, 686, 762, 790, 846, 874, 914, 966, 994, 1019, 1056, 1093, 1130, 1158, 1186, 1214, 1227, 1240, 1256, 1284, 1309, 1325], 156) := by decide +kernel
theorem dL_law_196 : decode cL_law 196 = .ok (.aload_n 1, 1) := by decide +kernel
theorem dL_law_197 : decode cL_law 197 = .ok (.aload_n 0, 1) := by decide +kernel
theorem dL_law_198 : decode cL_law 198 = .ok (.iload 4, 2) := by decide +kernel
theorem dL_law_200 : decode cL_law 200 = .ok (.iconst 1, 1) := by decide +kernel
theorem dL_law_201 : decode cL_law 201 = .ok (.iadd, 1) := by decide +kernel
theorem dL_law_202 : decode cL_law 202 = .ok (.iaload, 1) := by decide +kernel
theorem dL_law_203 : decode cL_law 203 = .ok (.aload_n 0, 1) := by decide +kernel
theorem dL_law_204 : decode cL_law 204 = .ok (.iload 4, 2) := by decide +kernel
theorem dL_law_206 : decode cL_law 206 = .ok (.iconst 2, 1) := by decide +kernel
theorem dL_law_207 : decode cL_law 207 = .ok (.iadd, 1) := by decide +kernel
theorem dL_law_208 : decode cL_law 208 = .ok (.iaload, 1) := by decide +kernel
theorem dL_law_209 : decode cL_law 209 = .ok (.aload_n 3, 1) := by decide +kernel
theorem dL_law_210 : decode cL_law 210 = .ok (.invokestatic 100, 3) := by decide +kernel
theorem dL_law_213 : decode cL_law 213 = .ok (.istore 5, 2) := by decide +kernel
theorem dL_law_215 : decode cL_law 215 = .ok (.aload_n 2, 1) := by decide +kernel
theorem dL_law_216 : decode cL_law 216 = .ok (.aload_n 0, 1) := by decide +kernel
theorem dL_law_217 : decode cL_law 217 = .ok (.iload 4, 2) := by decide +kernel
theorem dL_law_219 : decode cL_law 219 = .ok (.iconst 1, 1) := by decide +kernel
theorem dL_law_220 : decode cL_law 220 = .ok (.iadd, 1) := by decide +kernel
theorem dL_law_221 : decode cL_law 221 = .ok (.iaload, 1) := by decide +kernel
theorem dL_law_222 : decode cL_law 222 = .ok (.aload_n 0, 1) := by decide +kernel
theorem dL_law_223 : decode cL_law 223 = .ok (.iload 4, 2) := by decide +kernel
theorem dL_law_225 : decode cL_law 225 = .ok (.iconst 2, 1) := by decide +kernel
theorem dL_law_226 : decode cL_law 226 = .ok (.iadd, 1) := by decide +kernel
theorem dL_law_227 : decode cL_law 227 = .ok (.iaload, 1) := by decide +kernel
theorem dL_law_228 : decode cL_law 228 = .ok (.invokevirtual 105, 3) := by decide +kernel
theorem dL_law_231 : decode cL_law 231 = .ok (.istore 6, 2) := by decide +kernel
theorem dL_law_233 : decode cL_law 233 = .ok (.goto 1146, 3) := by decide +kernel
theorem dL_law_236 : decode cL_law 236 = .ok (.aload_n 1, 1) := by decide +kernel
theorem dL_law_237 : decode cL_law 237 = .ok (.aload_n 0, 1) := by decide +kernel
theorem dL_law_238 : decode cL_law 238 = .ok (.iload 4, 2) := by decide +kernel
theorem dL_law_240 : decode cL_law 240 = .ok (.iconst 1, 1) := by decide +kernel
theorem dL_law_241 : decode cL_law 241 = .ok (.iadd, 1) := by decide +kernel
theorem dL_law_242 : decode cL_law 242 = .ok (.iaload, 1) := by decide +kernel
theorem dL_law_243 : decode cL_law 243 = .ok (.aload_n 3, 1) := by decide +kernel
theorem dL_law_244 : decode cL_law 244 = .ok (.invokestatic 106, 3) := by decide +kernel
theorem dL_law_247 : decode cL_law 247 = .ok (.istore 5, 2) := by decide +kernel
theorem dL_law_249 : decode cL_law 249 = .ok (.aload_n 2, 1) := by decide +kernel
theorem dL_law_250 : decode cL_law 250 = .ok (.aload_n 0, 1) := by decide +kernel
theorem dL_law_251 : decode cL_law 251 = .ok (.iload 4, 2) := by decide +kernel
theorem dL_law_253 : decode cL_law 253 = .ok (.iconst 1, 1) := by decide +kernel
theorem dL_law_254 : decode cL_law 254 = .ok (.iadd, 1) := by decide +kernel
theorem dL_law_255 : decode cL_law 255 = .ok (.iaload, 1) := by decide +kernel
theorem dL_law_256 : decode cL_law 256 = .ok (.invokevirtual 109, 3) := by decide +kernel
theorem dL_law_259 : decode cL_law 259 = .ok (.istore 6, 2) := by decide +kernel
theorem dL_law_261 : decode cL_law 261 = .ok (.goto 1118, 3) := by decide +kernel
theorem dL_law_264 : decode cL_law 264 = .ok (.aload_n 1, 1) := by decide +kernel
theorem dL_law_265 : decode cL_law 265 = .ok (.aload_n 0, 1) := by decide +kernel
theorem dL_law_266 : decode cL_law 266 = .ok (.iload 4, 2) := by decide +kernel
theorem dL_law_268 : decode cL_law 268 = .ok (.iconst 1, 1) := by decide +kernel
theorem dL_law_269 : decode cL_law 269 = .ok (.iadd, 1) := by decide +kernel
theorem dL_law_270 : decode cL_law 270 = .ok (.iaload, 1) := by decide +kernel
theorem dL_law_271 : decode cL_law 271 = .ok (.aload_n 0, 1) := by decide +kernel
theorem dL_law_272 : decode cL_law 272 = .ok (.iload 4, 2) := by decide +kernel
theorem dL_law_274 : decode cL_law 274 = .ok (.iconst 2, 1) := by decide +kernel
theorem dL_law_275 : decode cL_law 275 = .ok (.iadd, 1) := by decide +kernel
theorem dL_law_276 : decode cL_law 276 = .ok (.iaload, 1) := by decide +kernel
theorem dL_law_277 : decode cL_law 277 = .ok (.aload_n 0, 1) := by decide +kernel
theorem dL_law_278 : decode cL_law 278 = .ok (.iload 4, 2) := by decide +kernel
theorem dL_law_280 : decode cL_law 280 = .ok (.iconst 3, 1) := by decide +kernel
theorem dL_law_281 : decode cL_law 281 = .ok (.iadd, 1) := by decide +kernel
theorem dL_law_282 : decode cL_law 282 = .ok (.iaload, 1) := by decide +kernel
theorem dL_law_283 : decode cL_law 283 = .ok (.aload_n 3, 1) := by decide +kernel
theorem dL_law_284 : decode cL_law 284 = .ok (.invokestatic 110, 3) := by decide +kernel
theorem dL_law_287 : decode cL_law 287 = .ok (.istore 5, 2) := by decide +kernel
theorem dL_law_289 : decode cL_law 289 = .ok (.aload_n 2, 1) := by decide +kernel
theorem dL_law_290 : decode cL_law 290 = .ok (.aload_n 0, 1) := by decide +kernel
theorem dL_law_291 : decode cL_law 291 = .ok (.iload 4, 2) := by decide +kernel
theorem dL_law_293 : decode cL_law 293 = .ok (.iconst 1, 1) := by decide +kernel
theorem dL_law_294 : decode cL_law 294 = .ok (.iadd, 1) := by decide +kernel
theorem dL_law_295 : decode cL_law 295 = .ok (.iaload, 1) := by decide +kernel
theorem dL_law_296 : decode cL_law 296 = .ok (.aload_n 0, 1) := by decide +kernel
theorem dL_law_297 : decode cL_law 297 = .ok (.iload 4, 2) := by decide +kernel
theorem dL_law_299 : decode cL_law 299 = .ok (.iconst 2, 1) := by decide +kernel
theorem dL_law_300 : decode cL_law 300 = .ok (.iadd, 1) := by decide +kernel
theorem dL_law_301 : decode cL_law 301 = .ok (.iaload, 1) := by decide +kernel
theorem dL_law_302 : decode cL_law 302 = .ok (.aload_n 0, 1) := by decide +kernel
theorem dL_law_303 : decode cL_law 303 = .ok (.iload 4, 2) := by decide +kernel
theorem dL_law_305 : decode cL_law 305 = .ok (.iconst 3, 1) := by decide +kernel
theorem dL_law_306 : decode cL_law 306 = .ok (.iadd, 1) := by decide +kernel
theorem dL_law_307 : decode cL_law 307 = .ok (.iaload, 1) := by decide +kernel
theorem dL_law_308 : decode cL_law 308 = .ok (.invokevirtual 113, 3) := by decide +kernel
theorem dL_law_311 : decode cL_law 311 = .ok (.istore 6, 2) := by decide +kernel
theorem dL_law_313 : decode cL_law 313 = .ok (.goto 1066, 3) := by decide +kernel
theorem dL_law_316 : decode cL_law 316 = .ok (.aload_n 1, 1) := by decide +kernel
theorem dL_law_317 : decode cL_law 317 = .ok (.invokevirtual 114, 3) := by decide +kernel
theorem dL_law_320 : decode cL_law 320 = .ok (.pop, 1) := by decide +kernel
theorem dL_law_321 : decode cL_law 321 = .ok (.aload_n 2, 1) := by decide +kernel
theorem dL_law_322 : decode cL_law 322 = .ok (.invokevirtual 117, 3) := by decide +kernel
theorem dL_law_325 : decode cL_law 325 = .ok (.pop, 1) := by decide +kernel
theorem dL_law_326 : decode cL_law 326 = .ok (.goto 1053, 3) := by decide +kernel
theorem dL_law_329 : decode cL_law 329 = .ok (.aload_n 1, 1) := by decide +kernel
theorem dL_law_330 : decode cL_law 330 = .ok (.aload_n 0, 1) := by decide +kernel
theorem dL_law_331 : decode cL_law 331 = .ok (.iload 4, 2) := by decide +kernel
theorem dL_law_333 : decode cL_law 333 = .ok (.iconst 1, 1) := by decide +kernel
theorem dL_law_334 : decode cL_law 334 = .ok (.iadd, 1) := by decide +kernel
theorem dL_law_335 : decode cL_law 335 = .ok (.iaload, 1) := by decide +kernel
theorem dL_law_336 : decode cL_law 336 = .ok (.aload_n 0, 1) := by decide +kernel
theorem dL_law_337 : decode cL_law 337 = .ok (.iload 4, 2) := by decide +kernel
theorem dL_law_339 : decode cL_law 339 = .ok (.iconst 2, 1) := by decide +kernel
theorem dL_law_340 : decode cL_law 340 = .ok (.iadd, 1) := by decide +kernel
theorem dL_law_341 : decode cL_law 341 = .ok (.iaload, 1) := by decide +kernel
theorem dL_law_342 : decode cL_law 342 = .ok (.aload_n 3, 1) := by decide +kernel
theorem dL_law_343 : decode cL_law 343 = .ok (.invokestatic 118, 3) := by decide +kernel
theorem dL_law_346 : decode cL_law 346 = .ok (.istore 5, 2) := by decide +kernel
theorem dL_law_348 : decode cL_law 348 = .ok (.aload_n 2, 1) := by decide +kernel
theorem dL_law_349 : decode cL_law 349 = .ok (.aload_n 0, 1) := by decide +kernel
theorem dL_law_350 : decode cL_law 350 = .ok (.iload 4, 2) := by decide +kernel
theorem dL_law_352 : decode cL_law 352 = .ok (.iconst 1, 1) := by decide +kernel
theorem dL_law_353 : decode cL_law 353 = .ok (.iadd, 1) := by decide +kernel
theorem dL_law_354 : decode cL_law 354 = .ok (.iaload, 1) := by decide +kernel
theorem dL_law_355 : decode cL_law 355 = .ok (.aload_n 0, 1) := by decide +kernel
theorem dL_law_356 : decode cL_law 356 = .ok (.iload 4, 2) := by decide +kernel
theorem dL_law_358 : decode cL_law 358 = .ok (.iconst 2, 1) := by decide +kernel
theorem dL_law_359 : decode cL_law 359 = .ok (.iadd, 1) := by decide +kernel
theorem dL_law_360 : decode cL_law 360 = .ok (.iaload, 1) := by decide +kernel
theorem dL_law_361 : decode cL_law 361 = .ok (.invokevirtual 120, 3) := by decide +kernel
theorem dL_law_364 : decode cL_law 364 = .ok (.istore 6, 2) := by decide +kernel
theorem dL_law_366 : decode cL_law 366 = .ok (.goto 1013, 3) := by decide +kernel
theorem dL_law_369 : decode cL_law 369 = .ok (.aload_n 1, 1) := by decide +kernel
theorem dL_law_370 : decode cL_law 370 = .ok (.aload_n 0, 1) := by decide +kernel
theorem dL_law_371 : decode cL_law 371 = .ok (.iload 4, 2) := by decide +kernel
theorem dL_law_373 : decode cL_law 373 = .ok (.iconst 1, 1) := by decide +kernel
theorem dL_law_374 : decode cL_law 374 = .ok (.iadd, 1) := by decide +kernel
theorem dL_law_375 : decode cL_law 375 = .ok (.iaload, 1) := by decide +kernel
theorem dL_law_376 : decode cL_law 376 = .ok (.aload_n 0, 1) := by decide +kernel
theorem dL_law_377 : decode cL_law 377 = .ok (.iload 4, 2) := by decide +kernel
theorem dL_law_379 : decode cL_law 379 = .ok (.iconst 2, 1) := by decide +kernel
theorem dL_law_380 : decode cL_law 380 = .ok (.iadd, 1) := by decide +kernel
theorem dL_law_381 : decode cL_law 381 = .ok (.iaload, 1) := by decide +kernel
theorem dL_law_382 : decode cL_law 382 = .ok (.aload_n 3, 1) := by decide +kernel
theorem dL_law_383 : decode cL_law 383 = .ok (.invokestatic 121, 3) := by decide +kernel
theorem dL_law_386 : decode cL_law 386 = .ok (.istore 5, 2) := by decide +kernel
theorem dL_law_388 : decode cL_law 388 = .ok (.aload_n 2, 1) := by decide +kernel
theorem dL_law_389 : decode cL_law 389 = .ok (.aload_n 0, 1) := by decide +kernel
theorem dL_law_390 : decode cL_law 390 = .ok (.iload 4, 2) := by decide +kernel
theorem dL_law_392 : decode cL_law 392 = .ok (.iconst 1, 1) := by decide +kernel
theorem dL_law_393 : decode cL_law 393 = .ok (.iadd, 1) := by decide +kernel
theorem dL_law_394 : decode cL_law 394 = .ok (.iaload, 1) := by decide +kernel
theorem dL_law_395 : decode cL_law 395 = .ok (.aload_n 0, 1) := by decide +kernel
theorem dL_law_396 : decode cL_law 396 = .ok (.iload 4, 2) := by decide +kernel
theorem dL_law_398 : decode cL_law 398 = .ok (.iconst 2, 1) := by decide +kernel
theorem dL_law_399 : decode cL_law 399 = .ok (.iadd, 1) := by decide +kernel
theorem dL_law_400 : decode cL_law 400 = .ok (.iaload, 1) := by decide +kernel
theorem dL_law_401 : decode cL_law 401 = .ok (.invokevirtual 123, 3) := by decide +kernel
theorem dL_law_404 : decode cL_law 404 = .ok (.istore 6, 2) := by decide +kernel
theorem dL_law_406 : decode cL_law 406 = .ok (.goto 973, 3) := by decide +kernel
theorem dL_law_409 : decode cL_law 409 = .ok (.aload_n 1, 1) := by decide +kernel
theorem dL_law_410 : decode cL_law 410 = .ok (.aload_n 0, 1) := by decide +kernel
theorem dL_law_411 : decode cL_law 411 = .ok (.iload 4, 2) := by decide +kernel
theorem dL_law_413 : decode cL_law 413 = .ok (.iconst 1, 1) := by decide +kernel
theorem dL_law_414 : decode cL_law 414 = .ok (.iadd, 1) := by decide +kernel
theorem dL_law_415 : decode cL_law 415 = .ok (.iaload, 1) := by decide +kernel
theorem dL_law_416 : decode cL_law 416 = .ok (.aload_n 0, 1) := by decide +kernel
theorem dL_law_417 : decode cL_law 417 = .ok (.iload 4, 2) := by decide +kernel
theorem dL_law_419 : decode cL_law 419 = .ok (.iconst 2, 1) := by decide +kernel
theorem dL_law_420 : decode cL_law 420 = .ok (.iadd, 1) := by decide +kernel
theorem dL_law_421 : decode cL_law 421 = .ok (.iaload, 1) := by decide +kernel
theorem dL_law_422 : decode cL_law 422 = .ok (.aload_n 3, 1) := by decide +kernel
theorem dL_law_423 : decode cL_law 423 = .ok (.invokestatic 124, 3) := by decide +kernel
theorem dL_law_426 : decode cL_law 426 = .ok (.istore 5, 2) := by decide +kernel
theorem dL_law_428 : decode cL_law 428 = .ok (.aload_n 2, 1) := by decide +kernel
theorem dL_law_429 : decode cL_law 429 = .ok (.aload_n 0, 1) := by decide +kernel
theorem dL_law_430 : decode cL_law 430 = .ok (.iload 4, 2) := by decide +kernel
theorem dL_law_432 : decode cL_law 432 = .ok (.iconst 1, 1) := by decide +kernel
theorem dL_law_433 : decode cL_law 433 = .ok (.iadd, 1) := by decide +kernel
theorem dL_law_434 : decode cL_law 434 = .ok (.iaload, 1) := by decide +kernel
theorem dL_law_435 : decode cL_law 435 = .ok (.aload_n 0, 1) := by decide +kernel
theorem dL_law_436 : decode cL_law 436 = .ok (.iload 4, 2) := by decide +kernel
theorem dL_law_438 : decode cL_law 438 = .ok (.iconst 2, 1) := by decide +kernel
theorem dL_law_439 : decode cL_law 439 = .ok (.iadd, 1) := by decide +kernel
theorem dL_law_440 : decode cL_law 440 = .ok (.iaload, 1) := by decide +kernel
theorem dL_law_441 : decode cL_law 441 = .ok (.invokevirtual 126, 3) := by decide +kernel
theorem dL_law_444 : decode cL_law 444 = .ok (.istore 6, 2) := by decide +kernel
theorem dL_law_446 : decode cL_law 446 = .ok (.goto 933, 3) := by decide +kernel
theorem dL_law_449 : decode cL_law 449 = .ok (.aload_n 1, 1) := by decide +kernel
theorem dL_law_450 : decode cL_law 450 = .ok (.aload_n 0, 1) := by decide +kernel
theorem dL_law_451 : decode cL_law 451 = .ok (.iload 4, 2) := by decide +kernel
theorem dL_law_453 : decode cL_law 453 = .ok (.iconst 1, 1) := by decide +kernel
theorem dL_law_454 : decode cL_law 454 = .ok (.iadd, 1) := by decide +kernel
theorem dL_law_455 : decode cL_law 455 = .ok (.iaload, 1) := by decide +kernel
theorem dL_law_456 : decode cL_law 456 = .ok (.aload_n 0, 1) := by decide +kernel
theorem dL_law_457 : decode cL_law 457 = .ok (.iload 4, 2) := by decide +kernel
theorem dL_law_459 : decode cL_law 459 = .ok (.iconst 2, 1) := by decide +kernel
theorem dL_law_460 : decode cL_law 460 = .ok (.iadd, 1) := by decide +kernel
theorem dL_law_461 : decode cL_law 461 = .ok (.iaload, 1) := by decide +kernel
theorem dL_law_462 : decode cL_law 462 = .ok (.aload_n 0, 1) := by decide +kernel
theorem dL_law_463 : decode cL_law 463 = .ok (.iload 4, 2) := by decide +kernel
theorem dL_law_465 : decode cL_law 465 = .ok (.iconst 3, 1) := by decide +kernel
theorem dL_law_466 : decode cL_law 466 = .ok (.iadd, 1) := by decide +kernel
theorem dL_law_467 : decode cL_law 467 = .ok (.iaload, 1) := by decide +kernel
theorem dL_law_468 : decode cL_law 468 = .ok (.aload_n 3, 1) := by decide +kernel
theorem dL_law_469 : decode cL_law 469 = .ok (.invokestatic 127, 3) := by decide +kernel
theorem dL_law_472 : decode cL_law 472 = .ok (.istore 5, 2) := by decide +kernel
theorem dL_law_474 : decode cL_law 474 = .ok (.aload_n 2, 1) := by decide +kernel
theorem dL_law_475 : decode cL_law 475 = .ok (.aload_n 0, 1) := by decide +kernel
theorem dL_law_476 : decode cL_law 476 = .ok (.iload 4, 2) := by decide +kernel
theorem dL_law_478 : decode cL_law 478 = .ok (.iconst 1, 1) := by decide +kernel
theorem dL_law_479 : decode cL_law 479 = .ok (.iadd, 1) := by decide +kernel
theorem dL_law_480 : decode cL_law 480 = .ok (.iaload, 1) := by decide +kernel
theorem dL_law_481 : decode cL_law 481 = .ok (.aload_n 0, 1) := by decide +kernel
theorem dL_law_482 : decode cL_law 482 = .ok (.iload 4, 2) := by decide +kernel
theorem dL_law_484 : decode cL_law 484 = .ok (.iconst 2, 1) := by decide +kernel
theorem dL_law_485 : decode cL_law 485 = .ok (.iadd, 1) := by decide +kernel
theorem dL_law_486 : decode cL_law 486 = .ok (.iaload, 1) := by decide +kernel
theorem dL_law_487 : decode cL_law 487 = .ok (.aload_n 0, 1) := by decide +kernel
theorem dL_law_488 : decode cL_law 488 = .ok (.iload 4, 2) := by decide +kernel
theorem dL_law_490 : decode cL_law 490 = .ok (.iconst 3, 1) := by decide +kernel
theorem dL_law_491 : decode cL_law 491 = .ok (.iadd, 1) := by decide +kernel
theorem dL_law_492 : decode cL_law 492 = .ok (.iaload, 1) := by decide +kernel
theorem dL_law_493 : decode cL_law 493 = .ok (.invokevirtual 129, 3) := by decide +kernel
theorem dL_law_496 : decode cL_law 496 = .ok (.istore 6, 2) := by decide +kernel
theorem dL_law_498 : decode cL_law 498 = .ok (.goto 881, 3) := by decide +kernel
theorem dL_law_501 : decode cL_law 501 = .ok (.aload_n 1, 1) := by decide +kernel
theorem dL_law_502 : decode cL_law 502 = .ok (.aload_n 0, 1) := by decide +kernel
theorem dL_law_503 : decode cL_law 503 = .ok (.iload 4, 2) := by decide +kernel
theorem dL_law_505 : decode cL_law 505 = .ok (.iconst 1, 1) := by decide +kernel
theorem dL_law_506 : decode cL_law 506 = .ok (.iadd, 1) := by decide +kernel
theorem dL_law_507 : decode cL_law 507 = .ok (.iaload, 1) := by decide +kernel
theorem dL_law_508 : decode cL_law 508 = .ok (.aload_n 0, 1) := by decide +kernel
theorem dL_law_509 : decode cL_law 509 = .ok (.iload 4, 2) := by decide +kernel
theorem dL_law_511 : decode cL_law 511 = .ok (.iconst 2, 1) := by decide +kernel
theorem dL_law_512 : decode cL_law 512 = .ok (.iadd, 1) := by decide +kernel
theorem dL_law_513 : decode cL_law 513 = .ok (.iaload, 1) := by decide +kernel
theorem dL_law_514 : decode cL_law 514 = .ok (.aload_n 0, 1) := by decide +kernel
theorem dL_law_515 : decode cL_law 515 = .ok (.iload 4, 2) := by decide +kernel
theorem dL_law_517 : decode cL_law 517 = .ok (.iconst 3, 1) := by decide +kernel
theorem dL_law_518 : decode cL_law 518 = .ok (.iadd, 1) := by decide +kernel
theorem dL_law_519 : decode cL_law 519 = .ok (.iaload, 1) := by decide +kernel
theorem dL_law_520 : decode cL_law 520 = .ok (.aload_n 3, 1) := by decide +kernel
theorem dL_law_521 : decode cL_law 521 = .ok (.invokestatic 130, 3) := by decide +kernel
theorem dL_law_524 : decode cL_law 524 = .ok (.istore 5, 2) := by decide +kernel
theorem dL_law_526 : decode cL_law 526 = .ok (.aload_n 2, 1) := by decide +kernel
theorem dL_law_527 : decode cL_law 527 = .ok (.aload_n 0, 1) := by decide +kernel
theorem dL_law_528 : decode cL_law 528 = .ok (.iload 4, 2) := by decide +kernel
theorem dL_law_530 : decode cL_law 530 = .ok (.iconst 1, 1) := by decide +kernel
theorem dL_law_531 : decode cL_law 531 = .ok (.iadd, 1) := by decide +kernel
theorem dL_law_532 : decode cL_law 532 = .ok (.iaload, 1) := by decide +kernel
theorem dL_law_533 : decode cL_law 533 = .ok (.aload_n 0, 1) := by decide +kernel
theorem dL_law_534 : decode cL_law 534 = .ok (.iload 4, 2) := by decide +kernel
theorem dL_law_536 : decode cL_law 536 = .ok (.iconst 2, 1) := by decide +kernel
theorem dL_law_537 : decode cL_law 537 = .ok (.iadd, 1) := by decide +kernel
theorem dL_law_538 : decode cL_law 538 = .ok (.iaload, 1) := by decide +kernel
theorem dL_law_539 : decode cL_law 539 = .ok (.aload_n 0, 1) := by decide +kernel
theorem dL_law_540 : decode cL_law 540 = .ok (.iload 4, 2) := by decide +kernel
theorem dL_law_542 : decode cL_law 542 = .ok (.iconst 3, 1) := by decide +kernel
theorem dL_law_543 : decode cL_law 543 = .ok (.iadd, 1) := by decide +kernel
theorem dL_law_544 : decode cL_law 544 = .ok (.iaload, 1) := by decide +kernel
theorem dL_law_545 : decode cL_law 545 = .ok (.invokevirtual 132, 3) := by decide +kernel
theorem dL_law_548 : decode cL_law 548 = .ok (.istore 6, 2) := by decide +kernel
theorem dL_law_550 : decode cL_law 550 = .ok (.goto 829, 3) := by decide +kernel
theorem dL_law_553 : decode cL_law 553 = .ok (.aload_n 1, 1) := by decide +kernel
theorem dL_law_554 : decode cL_law 554 = .ok (.aload_n 0, 1) := by decide +kernel
theorem dL_law_555 : decode cL_law 555 = .ok (.iload 4, 2) := by decide +kernel
theorem dL_law_557 : decode cL_law 557 = .ok (.iconst 1, 1) := by decide +kernel
theorem dL_law_558 : decode cL_law 558 = .ok (.iadd, 1) := by decide +kernel
theorem dL_law_559 : decode cL_law 559 = .ok (.iaload, 1) := by decide +kernel
theorem dL_law_560 : decode cL_law 560 = .ok (.aload_n 3, 1) := by decide +kernel
theorem dL_law_561 : decode cL_law 561 = .ok (.invokestatic 133, 3) := by decide +kernel
theorem dL_law_564 : decode cL_law 564 = .ok (.istore 5, 2) := by decide +kernel
theorem dL_law_566 : decode cL_law 566 = .ok (.aload_n 2, 1) := by decide +kernel
theorem dL_law_567 : decode cL_law 567 = .ok (.aload_n 0, 1) := by decide +kernel
theorem dL_law_568 : decode cL_law 568 = .ok (.iload 4, 2) := by decide +kernel
theorem dL_law_570 : decode cL_law 570 = .ok (.iconst 1, 1) := by decide +kernel
theorem dL_law_571 : decode cL_law 571 = .ok (.iadd, 1) := by decide +kernel
theorem dL_law_572 : decode cL_law 572 = .ok (.iaload, 1) := by decide +kernel
theorem dL_law_573 : decode cL_law 573 = .ok (.invokevirtual 135, 3) := by decide +kernel
theorem dL_law_576 : decode cL_law 576 = .ok (.istore 6, 2) := by decide +kernel
theorem dL_law_578 : decode cL_law 578 = .ok (.goto 801, 3) := by decide +kernel
theorem dL_law_581 : decode cL_law 581 = .ok (.aload_n 1, 1) := by decide +kernel
theorem dL_law_582 : decode cL_law 582 = .ok (.aload_n 0, 1) := by decide +kernel
theorem dL_law_583 : decode cL_law 583 = .ok (.iload 4, 2) := by decide +kernel
theorem dL_law_585 : decode cL_law 585 = .ok (.iconst 1, 1) := by decide +kernel
theorem dL_law_586 : decode cL_law 586 = .ok (.iadd, 1) := by decide +kernel
theorem dL_law_587 : decode cL_law 587 = .ok (.iaload, 1) := by decide +kernel
theorem dL_law_588 : decode cL_law 588 = .ok (.aload_n 0, 1) := by decide +kernel
theorem dL_law_589 : decode cL_law 589 = .ok (.iload 4, 2) := by decide +kernel
theorem dL_law_591 : decode cL_law 591 = .ok (.iconst 2, 1) := by decide +kernel
theorem dL_law_592 : decode cL_law 592 = .ok (.iadd, 1) := by decide +kernel
theorem dL_law_593 : decode cL_law 593 = .ok (.iaload, 1) := by decide +kernel
theorem dL_law_594 : decode cL_law 594 = .ok (.aload_n 3, 1) := by decide +kernel
theorem dL_law_595 : decode cL_law 595 = .ok (.invokestatic 136, 3) := by decide +kernel
theorem dL_law_598 : decode cL_law 598 = .ok (.istore 5, 2) := by decide +kernel
theorem dL_law_600 : decode cL_law 600 = .ok (.aload_n 2, 1) := by decide +kernel
theorem dL_law_601 : decode cL_law 601 = .ok (.aload_n 0, 1) := by decide +kernel
theorem dL_law_602 : decode cL_law 602 = .ok (.iload 4, 2) := by decide +kernel
theorem dL_law_604 : decode cL_law 604 = .ok (.iconst 1, 1) := by decide +kernel
theorem dL_law_605 : decode cL_law 605 = .ok (.iadd, 1) := by decide +kernel
theorem dL_law_606 : decode cL_law 606 = .ok (.iaload, 1) := by decide +kernel
theorem dL_law_607 : decode cL_law 607 = .ok (.aload_n 0, 1) := by decide +kernel
theorem dL_law_608 : decode cL_law 608 = .ok (.iload 4, 2) := by decide +kernel
theorem dL_law_610 : decode cL_law 610 = .ok (.iconst 2, 1) := by decide +kernel
theorem dL_law_611 : decode cL_law 611 = .ok (.iadd, 1) := by decide +kernel
theorem dL_law_612 : decode cL_law 612 = .ok (.iaload, 1) := by decide +kernel
theorem dL_law_613 : decode cL_law 613 = .ok (.invokevirtual 138, 3) := by decide +kernel
theorem dL_law_616 : decode cL_law 616 = .ok (.istore 6, 2) := by decide +kernel
theorem dL_law_618 : decode cL_law 618 = .ok (.goto 761, 3) := by decide +kernel
theorem dL_law_621 : decode cL_law 621 = .ok (.aload_n 1, 1) := by decide +kernel
theorem dL_law_622 : decode cL_law 622 = .ok (.aload_n 0, 1) := by decide +kernel
theorem dL_law_623 : decode cL_law 623 = .ok (.iload 4, 2) := by decide +kernel
theorem dL_law_625 : decode cL_law 625 = .ok (.iconst 1, 1) := by decide +kernel
theorem dL_law_626 : decode cL_law 626 = .ok (.iadd, 1) := by decide +kernel
theorem dL_law_627 : decode cL_law 627 = .ok (.iaload, 1) := by decide +kernel
theorem dL_law_628 : decode cL_law 628 = .ok (.invokevirtual 139, 3) := by decide +kernel
theorem dL_law_631 : decode cL_law 631 = .ok (.pop, 1) := by decide +kernel
theorem dL_law_632 : decode cL_law 632 = .ok (.aload_n 2, 1) := by decide +kernel
theorem dL_law_633 : decode cL_law 633 = .ok (.aload_n 0, 1) := by decide +kernel
theorem dL_law_634 : decode cL_law 634 = .ok (.iload 4, 2) := by decide +kernel
theorem dL_law_636 : decode cL_law 636 = .ok (.iconst 1, 1) := by decide +kernel
theorem dL_law_637 : decode cL_law 637 = .ok (.iadd, 1) := by decide +kernel
theorem dL_law_638 : decode cL_law 638 = .ok (.iaload, 1) := by decide +kernel
theorem dL_law_639 : decode cL_law 639 = .ok (.invokevirtual 142, 3) := by decide +kernel
theorem dL_law_642 : decode cL_law 642 = .ok (.pop, 1) := by decide +kernel
theorem dL_law_643 : decode cL_law 643 = .ok (.goto 736, 3) := by decide +kernel
theorem dL_law_646 : decode cL_law 646 = .ok (.aload_n 1, 1) := by decide +kernel
theorem dL_law_647 : decode cL_law 647 = .ok (.aload_n 0, 1) := by decide +kernel
theorem dL_law_648 : decode cL_law 648 = .ok (.iload 4, 2) := by decide +kernel
theorem dL_law_650 : decode cL_law 650 = .ok (.iconst 1, 1) := by decide +kernel
theorem dL_law_651 : decode cL_law 651 = .ok (.iadd, 1) := by decide +kernel
theorem dL_law_652 : decode cL_law 652 = .ok (.iaload, 1) := by decide +kernel
theorem dL_law_653 : decode cL_law 653 = .ok (.aload_n 0, 1) := by decide +kernel
theorem dL_law_654 : decode cL_law 654 = .ok (.iload 4, 2) := by decide +kernel
theorem dL_law_656 : decode cL_law 656 = .ok (.iconst 2, 1) := by decide +kernel
theorem dL_law_657 : decode cL_law 657 = .ok (.iadd, 1) := by decide +kernel
theorem dL_law_658 : decode cL_law 658 = .ok (.iaload, 1) := by decide +kernel
theorem dL_law_659 : decode cL_law 659 = .ok (.aload_n 0, 1) := by decide +kernel
theorem dL_law_660 : decode cL_law 660 = .ok (.iload 4, 2) := by decide +kernel
theorem dL_law_662 : decode cL_law 662 = .ok (.iconst 3, 1) := by decide +kernel
theorem dL_law_663 : decode cL_law 663 = .ok (.iadd, 1) := by decide +kernel
theorem dL_law_664 : decode cL_law 664 = .ok (.iaload, 1) := by decide +kernel
theorem dL_law_665 : decode cL_law 665 = .ok (.aload_n 3, 1) := by decide +kernel
theorem dL_law_666 : decode cL_law 666 = .ok (.invokestatic 143, 3) := by decide +kernel
theorem dL_law_669 : decode cL_law 669 = .ok (.istore 5, 2) := by decide +kernel
theorem dL_law_671 : decode cL_law 671 = .ok (.aload_n 2, 1) := by decide +kernel
theorem dL_law_672 : decode cL_law 672 = .ok (.aload_n 0, 1) := by decide +kernel
theorem dL_law_673 : decode cL_law 673 = .ok (.iload 4, 2) := by decide +kernel
theorem dL_law_675 : decode cL_law 675 = .ok (.iconst 1, 1) := by decide +kernel
theorem dL_law_676 : decode cL_law 676 = .ok (.iadd, 1) := by decide +kernel
theorem dL_law_677 : decode cL_law 677 = .ok (.iaload, 1) := by decide +kernel
theorem dL_law_678 : decode cL_law 678 = .ok (.aload_n 0, 1) := by decide +kernel
theorem dL_law_679 : decode cL_law 679 = .ok (.iload 4, 2) := by decide +kernel
theorem dL_law_681 : decode cL_law 681 = .ok (.iconst 2, 1) := by decide +kernel
theorem dL_law_682 : decode cL_law 682 = .ok (.iadd, 1) := by decide +kernel
theorem dL_law_683 : decode cL_law 683 = .ok (.iaload, 1) := by decide +kernel
theorem dL_law_684 : decode cL_law 684 = .ok (.aload_n 0, 1) := by decide +kernel
theorem dL_law_685 : decode cL_law 685 = .ok (.iload 4, 2) := by decide +kernel
theorem dL_law_687 : decode cL_law 687 = .ok (.iconst 3, 1) := by decide +kernel
theorem dL_law_688 : decode cL_law 688 = .ok (.iadd, 1) := by decide +kernel
theorem dL_law_689 : decode cL_law 689 = .ok (.iaload, 1) := by decide +kernel
theorem dL_law_690 : decode cL_law 690 = .ok (.invokevirtual 145, 3) := by decide +kernel
theorem dL_law_693 : decode cL_law 693 = .ok (.istore 6, 2) := by decide +kernel
theorem dL_law_695 : decode cL_law 695 = .ok (.goto 684, 3) := by decide +kernel
theorem dL_law_698 : decode cL_law 698 = .ok (.aload_n 1, 1) := by decide +kernel
theorem dL_law_699 : decode cL_law 699 = .ok (.aload_n 0, 1) := by decide +kernel
theorem dL_law_700 : decode cL_law 700 = .ok (.iload 4, 2) := by decide +kernel
theorem dL_law_702 : decode cL_law 702 = .ok (.iconst 1, 1) := by decide +kernel
theorem dL_law_703 : decode cL_law 703 = .ok (.iadd, 1) := by decide +kernel
theorem dL_law_704 : decode cL_law 704 = .ok (.iaload, 1) := by decide +kernel
theorem dL_law_705 : decode cL_law 705 = .ok (.aload_n 3, 1) := by decide +kernel
theorem dL_law_706 : decode cL_law 706 = .ok (.invokestatic 146, 3) := by decide +kernel
theorem dL_law_709 : decode cL_law 709 = .ok (.istore 5, 2) := by decide +kernel
theorem dL_law_711 : decode cL_law 711 = .ok (.aload_n 2, 1) := by decide +kernel
theorem dL_law_712 : decode cL_law 712 = .ok (.aload_n 0, 1) := by decide +kernel
theorem dL_law_713 : decode cL_law 713 = .ok (.iload 4, 2) := by decide +kernel
theorem dL_law_715 : decode cL_law 715 = .ok (.iconst 1, 1) := by decide +kernel
theorem dL_law_716 : decode cL_law 716 = .ok (.iadd, 1) := by decide +kernel
theorem dL_law_717 : decode cL_law 717 = .ok (.iaload, 1) := by decide +kernel
theorem dL_law_718 : decode cL_law 718 = .ok (.invokevirtual 148, 3) := by decide +kernel
theorem dL_law_721 : decode cL_law 721 = .ok (.istore 6, 2) := by decide +kernel
theorem dL_law_723 : decode cL_law 723 = .ok (.goto 656, 3) := by decide +kernel
theorem dL_law_726 : decode cL_law 726 = .ok (.aload_n 1, 1) := by decide +kernel
theorem dL_law_727 : decode cL_law 727 = .ok (.aload_n 0, 1) := by decide +kernel
theorem dL_law_728 : decode cL_law 728 = .ok (.iload 4, 2) := by decide +kernel
theorem dL_law_730 : decode cL_law 730 = .ok (.iconst 1, 1) := by decide +kernel
theorem dL_law_731 : decode cL_law 731 = .ok (.iadd, 1) := by decide +kernel
theorem dL_law_732 : decode cL_law 732 = .ok (.iaload, 1) := by decide +kernel
theorem dL_law_733 : decode cL_law 733 = .ok (.aload_n 0, 1) := by decide +kernel
theorem dL_law_734 : decode cL_law 734 = .ok (.iload 4, 2) := by decide +kernel
theorem dL_law_736 : decode cL_law 736 = .ok (.iconst 2, 1) := by decide +kernel
theorem dL_law_737 : decode cL_law 737 = .ok (.iadd, 1) := by decide +kernel
theorem dL_law_738 : decode cL_law 738 = .ok (.iaload, 1) := by decide +kernel
theorem dL_law_739 : decode cL_law 739 = .ok (.aload_n 0, 1) := by decide +kernel
theorem dL_law_740 : decode cL_law 740 = .ok (.iload 4, 2) := by decide +kernel
theorem dL_law_742 : decode cL_law 742 = .ok (.iconst 3, 1) := by decide +kernel
theorem dL_law_743 : decode cL_law 743 = .ok (.iadd, 1) := by decide +kernel
theorem dL_law_744 : decode cL_law 744 = .ok (.iaload, 1) := by decide +kernel
theorem dL_law_745 : decode cL_law 745 = .ok (.aload_n 0, 1) := by decide +kernel
theorem dL_law_746 : decode cL_law 746 = .ok (.iload 4, 2) := by decide +kernel
theorem dL_law_748 : decode cL_law 748 = .ok (.iconst 4, 1) := by decide +kernel
theorem dL_law_749 : decode cL_law 749 = .ok (.iadd, 1) := by decide +kernel
theorem dL_law_750 : decode cL_law 750 = .ok (.iaload, 1) := by decide +kernel
theorem dL_law_751 : decode cL_law 751 = .ok (.aload_n 0, 1) := by decide +kernel
theorem dL_law_752 : decode cL_law 752 = .ok (.iload 4, 2) := by decide +kernel
theorem dL_law_754 : decode cL_law 754 = .ok (.iconst 5, 1) := by decide +kernel
theorem dL_law_755 : decode cL_law 755 = .ok (.iadd, 1) := by decide +kernel
theorem dL_law_756 : decode cL_law 756 = .ok (.iaload, 1) := by decide +kernel
theorem dL_law_757 : decode cL_law 757 = .ok (.aload_n 3, 1) := by decide +kernel
theorem dL_law_758 : decode cL_law 758 = .ok (.invokestatic 149, 3) := by decide +kernel
theorem dL_law_761 : decode cL_law 761 = .ok (.istore 5, 2) := by decide +kernel
theorem dL_law_763 : decode cL_law 763 = .ok (.aload_n 2, 1) := by decide +kernel
theorem dL_law_764 : decode cL_law 764 = .ok (.aload_n 0, 1) := by decide +kernel
theorem dL_law_765 : decode cL_law 765 = .ok (.iload 4, 2) := by decide +kernel
theorem dL_law_767 : decode cL_law 767 = .ok (.iconst 1, 1) := by decide +kernel
theorem dL_law_768 : decode cL_law 768 = .ok (.iadd, 1) := by decide +kernel
theorem dL_law_769 : decode cL_law 769 = .ok (.iaload, 1) := by decide +kernel
theorem dL_law_770 : decode cL_law 770 = .ok (.aload_n 0, 1) := by decide +kernel
theorem dL_law_771 : decode cL_law 771 = .ok (.iload 4, 2) := by decide +kernel
theorem dL_law_773 : decode cL_law 773 = .ok (.iconst 2, 1) := by decide +kernel
theorem dL_law_774 : decode cL_law 774 = .ok (.iadd, 1) := by decide +kernel
theorem dL_law_775 : decode cL_law 775 = .ok (.iaload, 1) := by decide +kernel
theorem dL_law_776 : decode cL_law 776 = .ok (.aload_n 0, 1) := by decide +kernel
theorem dL_law_777 : decode cL_law 777 = .ok (.iload 4, 2) := by decide +kernel
theorem dL_law_779 : decode cL_law 779 = .ok (.iconst 3, 1) := by decide +kernel
theorem dL_law_780 : decode cL_law 780 = .ok (.iadd, 1) := by decide +kernel
theorem dL_law_781 : decode cL_law 781 = .ok (.iaload, 1) := by decide +kernel
theorem dL_law_782 : decode cL_law 782 = .ok (.aload_n 0, 1) := by decide +kernel
theorem dL_law_783 : decode cL_law 783 = .ok (.iload 4, 2) := by decide +kernel
theorem dL_law_785 : decode cL_law 785 = .ok (.iconst 4, 1) := by decide +kernel
theorem dL_law_786 : decode cL_law 786 = .ok (.iadd, 1) := by decide +kernel
theorem dL_law_787 : decode cL_law 787 = .ok (.iaload, 1) := by decide +kernel
theorem dL_law_788 : decode cL_law 788 = .ok (.aload_n 0, 1) := by decide +kernel
theorem dL_law_789 : decode cL_law 789 = .ok (.iload 4, 2) := by decide +kernel
theorem dL_law_791 : decode cL_law 791 = .ok (.iconst 5, 1) := by decide +kernel
theorem dL_law_792 : decode cL_law 792 = .ok (.iadd, 1) := by decide +kernel
theorem dL_law_793 : decode cL_law 793 = .ok (.iaload, 1) := by decide +kernel
theorem dL_law_794 : decode cL_law 794 = .ok (.invokevirtual 152, 3) := by decide +kernel
theorem dL_law_797 : decode cL_law 797 = .ok (.istore 6, 2) := by decide +kernel
theorem dL_law_799 : decode cL_law 799 = .ok (.goto 580, 3) := by decide +kernel
theorem dL_law_802 : decode cL_law 802 = .ok (.aload_n 1, 1) := by decide +kernel
theorem dL_law_803 : decode cL_law 803 = .ok (.aload_n 0, 1) := by decide +kernel
theorem dL_law_804 : decode cL_law 804 = .ok (.iload 4, 2) := by decide +kernel
theorem dL_law_806 : decode cL_law 806 = .ok (.iconst 1, 1) := by decide +kernel
theorem dL_law_807 : decode cL_law 807 = .ok (.iadd, 1) := by decide +kernel
theorem dL_law_808 : decode cL_law 808 = .ok (.iaload, 1) := by decide +kernel
theorem dL_law_809 : decode cL_law 809 = .ok (.aload_n 3, 1) := by decide +kernel
theorem dL_law_810 : decode cL_law 810 = .ok (.invokestatic 153, 3) := by decide +kernel
theorem dL_law_813 : decode cL_law 813 = .ok (.istore 5, 2) := by decide +kernel
theorem dL_law_815 : decode cL_law 815 = .ok (.aload_n 2, 1) := by decide +kernel
theorem dL_law_816 : decode cL_law 816 = .ok (.aload_n 0, 1) := by decide +kernel
theorem dL_law_817 : decode cL_law 817 = .ok (.iload 4, 2) := by decide +kernel
theorem dL_law_819 : decode cL_law 819 = .ok (.iconst 1, 1) := by decide +kernel
theorem dL_law_820 : decode cL_law 820 = .ok (.iadd, 1) := by decide +kernel
theorem dL_law_821 : decode cL_law 821 = .ok (.iaload, 1) := by decide +kernel
theorem dL_law_822 : decode cL_law 822 = .ok (.invokevirtual 155, 3) := by decide +kernel
theorem dL_law_825 : decode cL_law 825 = .ok (.istore 6, 2) := by decide +kernel
theorem dL_law_827 : decode cL_law 827 = .ok (.goto 552, 3) := by decide +kernel
theorem dL_law_830 : decode cL_law 830 = .ok (.aload_n 1, 1) := by decide +kernel
theorem dL_law_831 : decode cL_law 831 = .ok (.aload_n 0, 1) := by decide +kernel
theorem dL_law_832 : decode cL_law 832 = .ok (.iload 4, 2) := by decide +kernel
theorem dL_law_834 : decode cL_law 834 = .ok (.iconst 1, 1) := by decide +kernel
theorem dL_law_835 : decode cL_law 835 = .ok (.iadd, 1) := by decide +kernel
theorem dL_law_836 : decode cL_law 836 = .ok (.iaload, 1) := by decide +kernel
theorem dL_law_837 : decode cL_law 837 = .ok (.aload_n 0, 1) := by decide +kernel
theorem dL_law_838 : decode cL_law 838 = .ok (.iload 4, 2) := by decide +kernel
theorem dL_law_840 : decode cL_law 840 = .ok (.iconst 2, 1) := by decide +kernel
theorem dL_law_841 : decode cL_law 841 = .ok (.iadd, 1) := by decide +kernel
theorem dL_law_842 : decode cL_law 842 = .ok (.iaload, 1) := by decide +kernel
theorem dL_law_843 : decode cL_law 843 = .ok (.ifCond .eq 7, 3) := by decide +kernel
theorem dL_law_846 : decode cL_law 846 = .ok (.iconst 1, 1) := by decide +kernel
theorem dL_law_847 : decode cL_law 847 = .ok (.goto 4, 3) := by decide +kernel
theorem dL_law_850 : decode cL_law 850 = .ok (.iconst 0, 1) := by decide +kernel
theorem dL_law_851 : decode cL_law 851 = .ok (.aload_n 3, 1) := by decide +kernel
theorem dL_law_852 : decode cL_law 852 = .ok (.invokestatic 156, 3) := by decide +kernel
theorem dL_law_855 : decode cL_law 855 = .ok (.istore 5, 2) := by decide +kernel
theorem dL_law_857 : decode cL_law 857 = .ok (.aload_n 2, 1) := by decide +kernel
theorem dL_law_858 : decode cL_law 858 = .ok (.aload_n 0, 1) := by decide +kernel
theorem dL_law_859 : decode cL_law 859 = .ok (.iload 4, 2) := by decide +kernel
theorem dL_law_861 : decode cL_law 861 = .ok (.iconst 1, 1) := by decide +kernel
theorem dL_law_862 : decode cL_law 862 = .ok (.iadd, 1) := by decide +kernel
theorem dL_law_863 : decode cL_law 863 = .ok (.iaload, 1) := by decide +kernel
theorem dL_law_864 : decode cL_law 864 = .ok (.aload_n 0, 1) := by decide +kernel
theorem dL_law_865 : decode cL_law 865 = .ok (.iload 4, 2) := by decide +kernel
theorem dL_law_867 : decode cL_law 867 = .ok (.iconst 2, 1) := by decide +kernel
theorem dL_law_868 : decode cL_law 868 = .ok (.iadd, 1) := by decide +kernel
theorem dL_law_869 : decode cL_law 869 = .ok (.iaload, 1) := by decide +kernel
theorem dL_law_870 : decode cL_law 870 = .ok (.ifCond .eq 7, 3) := by decide +kernel
theorem dL_law_873 : decode cL_law 873 = .ok (.iconst 1, 1) := by decide +kernel
theorem dL_law_874 : decode cL_law 874 = .ok (.goto 4, 3) := by decide +kernel
theorem dL_law_877 : decode cL_law 877 = .ok (.iconst 0, 1) := by decide +kernel
theorem dL_law_878 : decode cL_law 878 = .ok (.invokevirtual 159, 3) := by decide +kernel
theorem dL_law_881 : decode cL_law 881 = .ok (.istore 6, 2) := by decide +kernel
theorem dL_law_883 : decode cL_law 883 = .ok (.goto 496, 3) := by decide +kernel
theorem dL_law_886 : decode cL_law 886 = .ok (.aload_n 1, 1) := by decide +kernel
theorem dL_law_887 : decode cL_law 887 = .ok (.aload_n 0, 1) := by decide +kernel
theorem dL_law_888 : decode cL_law 888 = .ok (.iload 4, 2) := by decide +kernel
theorem dL_law_890 : decode cL_law 890 = .ok (.iconst 1, 1) := by decide +kernel
theorem dL_law_891 : decode cL_law 891 = .ok (.iadd, 1) := by decide +kernel
theorem dL_law_892 : decode cL_law 892 = .ok (.iaload, 1) := by decide +kernel
theorem dL_law_893 : decode cL_law 893 = .ok (.aload_n 3, 1) := by decide +kernel
theorem dL_law_894 : decode cL_law 894 = .ok (.invokestatic 160, 3) := by decide +kernel
theorem dL_law_897 : decode cL_law 897 = .ok (.istore 5, 2) := by decide +kernel
theorem dL_law_899 : decode cL_law 899 = .ok (.aload_n 2, 1) := by decide +kernel
theorem dL_law_900 : decode cL_law 900 = .ok (.aload_n 0, 1) := by decide +kernel
theorem dL_law_901 : decode cL_law 901 = .ok (.iload 4, 2) := by decide +kernel
theorem dL_law_903 : decode cL_law 903 = .ok (.iconst 1, 1) := by decide +kernel
theorem dL_law_904 : decode cL_law 904 = .ok (.iadd, 1) := by decide +kernel
theorem dL_law_905 : decode cL_law 905 = .ok (.iaload, 1) := by decide +kernel
theorem dL_law_906 : decode cL_law 906 = .ok (.invokevirtual 162, 3) := by decide +kernel
theorem dL_law_909 : decode cL_law 909 = .ok (.istore 6, 2) := by decide +kernel
theorem dL_law_911 : decode cL_law 911 = .ok (.goto 468, 3) := by decide +kernel
theorem dL_law_914 : decode cL_law 914 = .ok (.aload_n 1, 1) := by decide +kernel
theorem dL_law_915 : decode cL_law 915 = .ok (.aload_n 0, 1) := by decide +kernel
theorem dL_law_916 : decode cL_law 916 = .ok (.iload 4, 2) := by decide +kernel
theorem dL_law_918 : decode cL_law 918 = .ok (.iconst 1, 1) := by decide +kernel
theorem dL_law_919 : decode cL_law 919 = .ok (.iadd, 1) := by decide +kernel
theorem dL_law_920 : decode cL_law 920 = .ok (.iaload, 1) := by decide +kernel
theorem dL_law_921 : decode cL_law 921 = .ok (.aload_n 0, 1) := by decide +kernel
theorem dL_law_922 : decode cL_law 922 = .ok (.iload 4, 2) := by decide +kernel
theorem dL_law_924 : decode cL_law 924 = .ok (.iconst 2, 1) := by decide +kernel
theorem dL_law_925 : decode cL_law 925 = .ok (.iadd, 1) := by decide +kernel
theorem dL_law_926 : decode cL_law 926 = .ok (.iaload, 1) := by decide +kernel
theorem dL_law_927 : decode cL_law 927 = .ok (.aload_n 3, 1) := by decide +kernel
theorem dL_law_928 : decode cL_law 928 = .ok (.invokestatic 163, 3) := by decide +kernel
theorem dL_law_931 : decode cL_law 931 = .ok (.istore 5, 2) := by decide +kernel
theorem dL_law_933 : decode cL_law 933 = .ok (.aload_n 2, 1) := by decide +kernel
theorem dL_law_934 : decode cL_law 934 = .ok (.aload_n 0, 1) := by decide +kernel
theorem dL_law_935 : decode cL_law 935 = .ok (.iload 4, 2) := by decide +kernel
theorem dL_law_937 : decode cL_law 937 = .ok (.iconst 1, 1) := by decide +kernel
theorem dL_law_938 : decode cL_law 938 = .ok (.iadd, 1) := by decide +kernel
theorem dL_law_939 : decode cL_law 939 = .ok (.iaload, 1) := by decide +kernel
theorem dL_law_940 : decode cL_law 940 = .ok (.aload_n 0, 1) := by decide +kernel
theorem dL_law_941 : decode cL_law 941 = .ok (.iload 4, 2) := by decide +kernel
theorem dL_law_943 : decode cL_law 943 = .ok (.iconst 2, 1) := by decide +kernel
theorem dL_law_944 : decode cL_law 944 = .ok (.iadd, 1) := by decide +kernel
theorem dL_law_945 : decode cL_law 945 = .ok (.iaload, 1) := by decide +kernel
theorem dL_law_946 : decode cL_law 946 = .ok (.invokevirtual 165, 3) := by decide +kernel
theorem dL_law_949 : decode cL_law 949 = .ok (.istore 6, 2) := by decide +kernel
theorem dL_law_951 : decode cL_law 951 = .ok (.goto 428, 3) := by decide +kernel
theorem dL_law_954 : decode cL_law 954 = .ok (.aload_n 1, 1) := by decide +kernel
theorem dL_law_955 : decode cL_law 955 = .ok (.aload_n 0, 1) := by decide +kernel
theorem dL_law_956 : decode cL_law 956 = .ok (.iload 4, 2) := by decide +kernel
theorem dL_law_958 : decode cL_law 958 = .ok (.iconst 1, 1) := by decide +kernel
theorem dL_law_959 : decode cL_law 959 = .ok (.iadd, 1) := by decide +kernel
theorem dL_law_960 : decode cL_law 960 = .ok (.iaload, 1) := by decide +kernel
theorem dL_law_961 : decode cL_law 961 = .ok (.aload_n 0, 1) := by decide +kernel
theorem dL_law_962 : decode cL_law 962 = .ok (.iload 4, 2) := by decide +kernel
theorem dL_law_964 : decode cL_law 964 = .ok (.iconst 2, 1) := by decide +kernel
theorem dL_law_965 : decode cL_law 965 = .ok (.iadd, 1) := by decide +kernel
theorem dL_law_966 : decode cL_law 966 = .ok (.iaload, 1) := by decide +kernel
theorem dL_law_967 : decode cL_law 967 = .ok (.aload_n 0, 1) := by decide +kernel
theorem dL_law_968 : decode cL_law 968 = .ok (.iload 4, 2) := by decide +kernel
theorem dL_law_970 : decode cL_law 970 = .ok (.iconst 3, 1) := by decide +kernel
theorem dL_law_971 : decode cL_law 971 = .ok (.iadd, 1) := by decide +kernel
theorem dL_law_972 : decode cL_law 972 = .ok (.iaload, 1) := by decide +kernel
theorem dL_law_973 : decode cL_law 973 = .ok (.aload_n 3, 1) := by decide +kernel
theorem dL_law_974 : decode cL_law 974 = .ok (.invokestatic 166, 3) := by decide +kernel
theorem dL_law_977 : decode cL_law 977 = .ok (.istore 5, 2) := by decide +kernel
theorem dL_law_979 : decode cL_law 979 = .ok (.aload_n 2, 1) := by decide +kernel
theorem dL_law_980 : decode cL_law 980 = .ok (.aload_n 0, 1) := by decide +kernel
theorem dL_law_981 : decode cL_law 981 = .ok (.iload 4, 2) := by decide +kernel
theorem dL_law_983 : decode cL_law 983 = .ok (.iconst 1, 1) := by decide +kernel
theorem dL_law_984 : decode cL_law 984 = .ok (.iadd, 1) := by decide +kernel
theorem dL_law_985 : decode cL_law 985 = .ok (.iaload, 1) := by decide +kernel
theorem dL_law_986 : decode cL_law 986 = .ok (.aload_n 0, 1) := by decide +kernel
theorem dL_law_987 : decode cL_law 987 = .ok (.iload 4, 2) := by decide +kernel
theorem dL_law_989 : decode cL_law 989 = .ok (.iconst 2, 1) := by decide +kernel
theorem dL_law_990 : decode cL_law 990 = .ok (.iadd, 1) := by decide +kernel
theorem dL_law_991 : decode cL_law 991 = .ok (.iaload, 1) := by decide +kernel
theorem dL_law_992 : decode cL_law 992 = .ok (.aload_n 0, 1) := by decide +kernel
theorem dL_law_993 : decode cL_law 993 = .ok (.iload 4, 2) := by decide +kernel
theorem dL_law_995 : decode cL_law 995 = .ok (.iconst 3, 1) := by decide +kernel
theorem dL_law_996 : decode cL_law 996 = .ok (.iadd, 1) := by decide +kernel
theorem dL_law_997 : decode cL_law 997 = .ok (.iaload, 1) := by decide +kernel
theorem dL_law_998 : decode cL_law 998 = .ok (.invokevirtual 168, 3) := by decide +kernel
theorem dL_law_1001 : decode cL_law 1001 = .ok (.istore 6, 2) := by decide +kernel
theorem dL_law_1003 : decode cL_law 1003 = .ok (.goto 376, 3) := by decide +kernel
theorem dL_law_1006 : decode cL_law 1006 = .ok (.aload_n 1, 1) := by decide +kernel
theorem dL_law_1007 : decode cL_law 1007 = .ok (.aload_n 0, 1) := by decide +kernel
theorem dL_law_1008 : decode cL_law 1008 = .ok (.iload 4, 2) := by decide +kernel
theorem dL_law_1010 : decode cL_law 1010 = .ok (.iconst 1, 1) := by decide +kernel
theorem dL_law_1011 : decode cL_law 1011 = .ok (.iadd, 1) := by decide +kernel
theorem dL_law_1012 : decode cL_law 1012 = .ok (.iaload, 1) := by decide +kernel
theorem dL_law_1013 : decode cL_law 1013 = .ok (.aload_n 3, 1) := by decide +kernel
theorem dL_law_1014 : decode cL_law 1014 = .ok (.invokestatic 169, 3) := by decide +kernel
theorem dL_law_1017 : decode cL_law 1017 = .ok (.istore 5, 2) := by decide +kernel
theorem dL_law_1019 : decode cL_law 1019 = .ok (.aload_n 2, 1) := by decide +kernel
theorem dL_law_1020 : decode cL_law 1020 = .ok (.aload_n 0, 1) := by decide +kernel
theorem dL_law_1021 : decode cL_law 1021 = .ok (.iload 4, 2) := by decide +kernel
theorem dL_law_1023 : decode cL_law 1023 = .ok (.iconst 1, 1) := by decide +kernel
theorem dL_law_1024 : decode cL_law 1024 = .ok (.iadd, 1) := by decide +kernel
theorem dL_law_1025 : decode cL_law 1025 = .ok (.iaload, 1) := by decide +kernel
theorem dL_law_1026 : decode cL_law 1026 = .ok (.invokevirtual 171, 3) := by decide +kernel
theorem dL_law_1029 : decode cL_law 1029 = .ok (.istore 6, 2) := by decide +kernel
theorem dL_law_1031 : decode cL_law 1031 = .ok (.goto 348, 3) := by decide +kernel
theorem dL_law_1034 : decode cL_law 1034 = .ok (.aload_n 1, 1) := by decide +kernel
theorem dL_law_1035 : decode cL_law 1035 = .ok (.aload_n 0, 1) := by decide +kernel
theorem dL_law_1036 : decode cL_law 1036 = .ok (.iload 4, 2) := by decide +kernel
theorem dL_law_1038 : decode cL_law 1038 = .ok (.iconst 1, 1) := by decide +kernel
theorem dL_law_1039 : decode cL_law 1039 = .ok (.iadd, 1) := by decide +kernel
theorem dL_law_1040 : decode cL_law 1040 = .ok (.iaload, 1) := by decide +kernel
theorem dL_law_1041 : decode cL_law 1041 = .ok (.invokevirtual 172, 3) := by decide +kernel
theorem dL_law_1044 : decode cL_law 1044 = .ok (.pop, 1) := by decide +kernel
theorem dL_law_1045 : decode cL_law 1045 = .ok (.aload_n 2, 1) := by decide +kernel
theorem dL_law_1046 : decode cL_law 1046 = .ok (.aload_n 0, 1) := by decide +kernel
theorem dL_law_1047 : decode cL_law 1047 = .ok (.iload 4, 2) := by decide +kernel
theorem dL_law_1049 : decode cL_law 1049 = .ok (.iconst 1, 1) := by decide +kernel
theorem dL_law_1050 : decode cL_law 1050 = .ok (.iadd, 1) := by decide +kernel
theorem dL_law_1051 : decode cL_law 1051 = .ok (.iaload, 1) := by decide +kernel
theorem dL_law_1052 : decode cL_law 1052 = .ok (.invokevirtual 175, 3) := by decide +kernel
theorem dL_law_1055 : decode cL_law 1055 = .ok (.pop, 1) := by decide +kernel
theorem dL_law_1056 : decode cL_law 1056 = .ok (.goto 323, 3) := by decide +kernel
theorem dL_law_1059 : decode cL_law 1059 = .ok (.aload_n 1, 1) := by decide +kernel
theorem dL_law_1060 : decode cL_law 1060 = .ok (.aload_n 0, 1) := by decide +kernel
theorem dL_law_1061 : decode cL_law 1061 = .ok (.iload 4, 2) := by decide +kernel
theorem dL_law_1063 : decode cL_law 1063 = .ok (.iconst 1, 1) := by decide +kernel
theorem dL_law_1064 : decode cL_law 1064 = .ok (.iadd, 1) := by decide +kernel
theorem dL_law_1065 : decode cL_law 1065 = .ok (.iaload, 1) := by decide +kernel
theorem dL_law_1066 : decode cL_law 1066 = .ok (.aload_n 0, 1) := by decide +kernel
theorem dL_law_1067 : decode cL_law 1067 = .ok (.iload 4, 2) := by decide +kernel
theorem dL_law_1069 : decode cL_law 1069 = .ok (.iconst 2, 1) := by decide +kernel
theorem dL_law_1070 : decode cL_law 1070 = .ok (.iadd, 1) := by decide +kernel
theorem dL_law_1071 : decode cL_law 1071 = .ok (.iaload, 1) := by decide +kernel
theorem dL_law_1072 : decode cL_law 1072 = .ok (.invokevirtual 176, 3) := by decide +kernel
theorem dL_law_1075 : decode cL_law 1075 = .ok (.pop, 1) := by decide +kernel
theorem dL_law_1076 : decode cL_law 1076 = .ok (.aload_n 2, 1) := by decide +kernel
theorem dL_law_1077 : decode cL_law 1077 = .ok (.aload_n 0, 1) := by decide +kernel
theorem dL_law_1078 : decode cL_law 1078 = .ok (.iload 4, 2) := by decide +kernel
theorem dL_law_1080 : decode cL_law 1080 = .ok (.iconst 1, 1) := by decide +kernel
theorem dL_law_1081 : decode cL_law 1081 = .ok (.iadd, 1) := by decide +kernel
theorem dL_law_1082 : decode cL_law 1082 = .ok (.iaload, 1) := by decide +kernel
theorem dL_law_1083 : decode cL_law 1083 = .ok (.aload_n 0, 1) := by decide +kernel
theorem dL_law_1084 : decode cL_law 1084 = .ok (.iload 4, 2) := by decide +kernel
theorem dL_law_1086 : decode cL_law 1086 = .ok (.iconst 2, 1) := by decide +kernel
theorem dL_law_1087 : decode cL_law 1087 = .ok (.iadd, 1) := by decide +kernel
theorem dL_law_1088 : decode cL_law 1088 = .ok (.iaload, 1) := by decide +kernel
theorem dL_law_1089 : decode cL_law 1089 = .ok (.invokevirtual 179, 3) := by decide +kernel
theorem dL_law_1092 : decode cL_law 1092 = .ok (.pop, 1) := by decide +kernel
theorem dL_law_1093 : decode cL_law 1093 = .ok (.goto 286, 3) := by decide +kernel
theorem dL_law_1096 : decode cL_law 1096 = .ok (.aload_n 1, 1) := by decide +kernel
theorem dL_law_1097 : decode cL_law 1097 = .ok (.aload_n 0, 1) := by decide +kernel
theorem dL_law_1098 : decode cL_law 1098 = .ok (.iload 4, 2) := by decide +kernel
theorem dL_law_1100 : decode cL_law 1100 = .ok (.iconst 1, 1) := by decide +kernel
theorem dL_law_1101 : decode cL_law 1101 = .ok (.iadd, 1) := by decide +kernel
theorem dL_law_1102 : decode cL_law 1102 = .ok (.iaload, 1) := by decide +kernel
theorem dL_law_1103 : decode cL_law 1103 = .ok (.aload_n 0, 1) := by decide +kernel
theorem dL_law_1104 : decode cL_law 1104 = .ok (.iload 4, 2) := by decide +kernel
theorem dL_law_1106 : decode cL_law 1106 = .ok (.iconst 2, 1) := by decide +kernel
theorem dL_law_1107 : decode cL_law 1107 = .ok (.iadd, 1) := by decide +kernel
theorem dL_law_1108 : decode cL_law 1108 = .ok (.iaload, 1) := by decide +kernel
theorem dL_law_1109 : decode cL_law 1109 = .ok (.invokevirtual 180, 3) := by decide +kernel
theorem dL_law_1112 : decode cL_law 1112 = .ok (.pop, 1) := by decide +kernel
theorem dL_law_1113 : decode cL_law 1113 = .ok (.aload_n 2, 1) := by decide +kernel
theorem dL_law_1114 : decode cL_law 1114 = .ok (.aload_n 0, 1) := by decide +kernel
theorem dL_law_1115 : decode cL_law 1115 = .ok (.iload 4, 2) := by decide +kernel
theorem dL_law_1117 : decode cL_law 1117 = .ok (.iconst 1, 1) := by decide +kernel
theorem dL_law_1118 : decode cL_law 1118 = .ok (.iadd, 1) := by decide +kernel
theorem dL_law_1119 : decode cL_law 1119 = .ok (.iaload, 1) := by decide +kernel
theorem dL_law_1120 : decode cL_law 1120 = .ok (.aload_n 0, 1) := by decide +kernel
theorem dL_law_1121 : decode cL_law 1121 = .ok (.iload 4, 2) := by decide +kernel
theorem dL_law_1123 : decode cL_law 1123 = .ok (.iconst 2, 1) := by decide +kernel
theorem dL_law_1124 : decode cL_law 1124 = .ok (.iadd, 1) := by decide +kernel
theorem dL_law_1125 : decode cL_law 1125 = .ok (.iaload, 1) := by decide +kernel
theorem dL_law_1126 : decode cL_law 1126 = .ok (.invokevirtual 183, 3) := by decide +kernel
theorem dL_law_1129 : decode cL_law 1129 = .ok (.pop, 1) := by decide +kernel
theorem dL_law_1130 : decode cL_law 1130 = .ok (.goto 249, 3) := by decide +kernel
theorem dL_law_1133 : decode cL_law 1133 = .ok (.aload_n 1, 1) := by decide +kernel
theorem dL_law_1134 : decode cL_law 1134 = .ok (.aload_n 0, 1) := by decide +kernel
theorem dL_law_1135 : decode cL_law 1135 = .ok (.iload 4, 2) := by decide +kernel
theorem dL_law_1137 : decode cL_law 1137 = .ok (.iconst 1, 1) := by decide +kernel
theorem dL_law_1138 : decode cL_law 1138 = .ok (.iadd, 1) := by decide +kernel
theorem dL_law_1139 : decode cL_law 1139 = .ok (.iaload, 1) := by decide +kernel
theorem dL_law_1140 : decode cL_law 1140 = .ok (.aload_n 0, 1) := by decide +kernel
theorem dL_law_1141 : decode cL_law 1141 = .ok (.iload 4, 2) := by decide +kernel
theorem dL_law_1143 : decode cL_law 1143 = .ok (.iconst 2, 1) := by decide +kernel
theorem dL_law_1144 : decode cL_law 1144 = .ok (.iadd, 1) := by decide +kernel
theorem dL_law_1145 : decode cL_law 1145 = .ok (.iaload, 1) := by decide +kernel
theorem dL_law_1146 : decode cL_law 1146 = .ok (.invokevirtual 184, 3) := by decide +kernel
theorem dL_law_1149 : decode cL_law 1149 = .ok (.pop, 1) := by decide +kernel
theorem dL_law_1150 : decode cL_law 1150 = .ok (.aload_n 2, 1) := by decide +kernel
theorem dL_law_1151 : decode cL_law 1151 = .ok (.aload_n 0, 1) := by decide +kernel
theorem dL_law_1152 : decode cL_law 1152 = .ok (.iload 4, 2) := by decide +kernel
theorem dL_law_1154 : decode cL_law 1154 = .ok (.iconst 1, 1) := by decide +kernel
theorem dL_law_1155 : decode cL_law 1155 = .ok (.iadd, 1) := by decide +kernel
theorem dL_law_1156 : decode cL_law 1156 = .ok (.iaload, 1) := by decide +kernel
theorem dL_law_1157 : decode cL_law 1157 = .ok (.aload_n 0, 1) := by decide +kernel
theorem dL_law_1158 : decode cL_law 1158 = .ok (.iload 4, 2) := by decide +kernel
theorem dL_law_1160 : decode cL_law 1160 = .ok (.iconst 2, 1) := by decide +kernel
theorem dL_law_1161 : decode cL_law 1161 = .ok (.iadd, 1) := by decide +kernel
theorem dL_law_1162 : decode cL_law 1162 = .ok (.iaload, 1) := by decide +kernel
theorem dL_law_1163 : decode cL_law 1163 = .ok (.invokevirtual 187, 3) := by decide +kernel
theorem dL_law_1166 : decode cL_law 1166 = .ok (.pop, 1) := by decide +kernel
theorem dL_law_1167 : decode cL_law 1167 = .ok (.goto 212, 3) := by decide +kernel
theorem dL_law_1170 : decode cL_law 1170 = .ok (.aload_n 1, 1) := by decide +kernel
theorem dL_law_1171 : decode cL_law 1171 = .ok (.aload_n 0, 1) := by decide +kernel
theorem dL_law_1172 : decode cL_law 1172 = .ok (.iload 4, 2) := by decide +kernel
theorem dL_law_1174 : decode cL_law 1174 = .ok (.iconst 1, 1) := by decide +kernel
theorem dL_law_1175 : decode cL_law 1175 = .ok (.iadd, 1) := by decide +kernel
theorem dL_law_1176 : decode cL_law 1176 = .ok (.iaload, 1) := by decide +kernel
theorem dL_law_1177 : decode cL_law 1177 = .ok (.aload_n 3, 1) := by decide +kernel
theorem dL_law_1178 : decode cL_law 1178 = .ok (.invokestatic 188, 3) := by decide +kernel
theorem dL_law_1181 : decode cL_law 1181 = .ok (.istore 5, 2) := by decide +kernel
theorem dL_law_1183 : decode cL_law 1183 = .ok (.aload_n 2, 1) := by decide +kernel
theorem dL_law_1184 : decode cL_law 1184 = .ok (.aload_n 0, 1) := by decide +kernel
theorem dL_law_1185 : decode cL_law 1185 = .ok (.iload 4, 2) := by decide +kernel
theorem dL_law_1187 : decode cL_law 1187 = .ok (.iconst 1, 1) := by decide +kernel
theorem dL_law_1188 : decode cL_law 1188 = .ok (.iadd, 1) := by decide +kernel
theorem dL_law_1189 : decode cL_law 1189 = .ok (.iaload, 1) := by decide +kernel
theorem dL_law_1190 : decode cL_law 1190 = .ok (.invokevirtual 190, 3) := by decide +kernel
theorem dL_law_1193 : decode cL_law 1193 = .ok (.istore 6, 2) := by decide +kernel
theorem dL_law_1195 : decode cL_law 1195 = .ok (.goto 184, 3) := by decide +kernel
theorem dL_law_1198 : decode cL_law 1198 = .ok (.aload_n 1, 1) := by decide +kernel
theorem dL_law_1199 : decode cL_law 1199 = .ok (.aload_n 0, 1) := by decide +kernel
theorem dL_law_1200 : decode cL_law 1200 = .ok (.iload 4, 2) := by decide +kernel
theorem dL_law_1202 : decode cL_law 1202 = .ok (.iconst 1, 1) := by decide +kernel
theorem dL_law_1203 : decode cL_law 1203 = .ok (.iadd, 1) := by decide +kernel
theorem dL_law_1204 : decode cL_law 1204 = .ok (.iaload, 1) := by decide +kernel
theorem dL_law_1205 : decode cL_law 1205 = .ok (.aload_n 3, 1) := by decide +kernel
theorem dL_law_1206 : decode cL_law 1206 = .ok (.invokestatic 191, 3) := by decide +kernel
theorem dL_law_1209 : decode cL_law 1209 = .ok (.istore 5, 2) := by decide +kernel
theorem dL_law_1211 : decode cL_law 1211 = .ok (.aload_n 2, 1) := by decide +kernel
theorem dL_law_1212 : decode cL_law 1212 = .ok (.aload_n 0, 1) := by decide +kernel
theorem dL_law_1213 : decode cL_law 1213 = .ok (.iload 4, 2) := by decide +kernel
theorem dL_law_1215 : decode cL_law 1215 = .ok (.iconst 1, 1) := by decide +kernel
theorem dL_law_1216 : decode cL_law 1216 = .ok (.iadd, 1) := by decide +kernel
theorem dL_law_1217 : decode cL_law 1217 = .ok (.iaload, 1) := by decide +kernel
theorem dL_law_1218 : decode cL_law 1218 = .ok (.invokevirtual 193, 3) := by decide +kernel
theorem dL_law_1221 : decode cL_law 1221 = .ok (.istore 6, 2) := by decide +kernel
theorem dL_law_1223 : decode cL_law 1223 = .ok (.goto 156, 3) := by decide +kernel
theorem dL_law_1226 : decode cL_law 1226 = .ok (.aload_n 1, 1) := by decide +kernel
theorem dL_law_1227 : decode cL_law 1227 = .ok (.aload_n 0, 1) := by decide +kernel
theorem dL_law_1228 : decode cL_law 1228 = .ok (.iload 4, 2) := by decide +kernel
theorem dL_law_1230 : decode cL_law 1230 = .ok (.iconst 1, 1) := by decide +kernel
theorem dL_law_1231 : decode cL_law 1231 = .ok (.iadd, 1) := by decide +kernel
theorem dL_law_1232 : decode cL_law 1232 = .ok (.iaload, 1) := by decide +kernel
theorem dL_law_1233 : decode cL_law 1233 = .ok (.aload_n 3, 1) := by decide +kernel
theorem dL_law_1234 : decode cL_law 1234 = .ok (.invokestatic 194, 3) := by decide +kernel
theorem dL_law_1237 : decode cL_law 1237 = .ok (.istore 5, 2) := by decide +kernel
theorem dL_law_1239 : decode cL_law 1239 = .ok (.aload_n 2, 1) := by decide +kernel
theorem dL_law_1240 : decode cL_law 1240 = .ok (.aload_n 0, 1) := by decide +kernel
theorem dL_law_1241 : decode cL_law 1241 = .ok (.iload 4, 2) := by decide +kernel
theorem dL_law_1243 : decode cL_law 1243 = .ok (.iconst 1, 1) := by decide +kernel
theorem dL_law_1244 : decode cL_law 1244 = .ok (.iadd, 1) := by decide +kernel
theorem dL_law_1245 : decode cL_law 1245 = .ok (.iaload, 1) := by decide +kernel
theorem dL_law_1246 : decode cL_law 1246 = .ok (.invokevirtual 196, 3) := by decide +kernel
theorem dL_law_1249 : decode cL_law 1249 = .ok (.istore 6, 2) := by decide +kernel
theorem dL_law_1251 : decode cL_law 1251 = .ok (.goto 128, 3) := by decide +kernel
theorem dL_law_1254 : decode cL_law 1254 = .ok (.aload_n 1, 1) := by decide +kernel
theorem dL_law_1255 : decode cL_law 1255 = .ok (.invokevirtual 197, 3) := by decide +kernel
theorem dL_law_1258 : decode cL_law 1258 = .ok (.pop, 1) := by decide +kernel
theorem dL_law_1259 : decode cL_law 1259 = .ok (.aload_n 2, 1) := by decide +kernel
theorem dL_law_1260 : decode cL_law 1260 = .ok (.invokevirtual 200, 3) := by decide +kernel
theorem dL_law_1263 : decode cL_law 1263 = .ok (.pop, 1) := by decide +kernel
theorem dL_law_1264 : decode cL_law 1264 = .ok (.goto 115, 3) := by decide +kernel
theorem dL_law_1267 : decode cL_law 1267 = .ok (.aload_n 1, 1) := by decide +kernel
theorem dL_law_1268 : decode cL_law 1268 = .ok (.invokevirtual 201, 3) := by decide +kernel
theorem dL_law_1271 : decode cL_law 1271 = .ok (.pop, 1) := by decide +kernel
theorem dL_law_1272 : decode cL_law 1272 = .ok (.aload_n 2, 1) := by decide +kernel
theorem dL_law_1273 : decode cL_law 1273 = .ok (.invokevirtual 204, 3) := by decide +kernel
theorem dL_law_1276 : decode cL_law 1276 = .ok (.pop, 1) := by decide +kernel
theorem dL_law_1277 : decode cL_law 1277 = .ok (.goto 102, 3) := by decide +kernel
theorem dL_law_1280 : decode cL_law 1280 = .ok (.aload_n 1, 1) := by decide +kernel
theorem dL_law_1281 : decode cL_law 1281 = .ok (.aload_n 3, 1) := by decide +kernel
theorem dL_law_1282 : decode cL_law 1282 = .ok (.invokestatic 205, 3) := by decide +kernel
theorem dL_law_1285 : decode cL_law 1285 = .ok (.istore 5, 2) := by decide +kernel
theorem dL_law_1287 : decode cL_law 1287 = .ok (.aload_n 2, 1) := by decide +kernel
theorem dL_law_1288 : decode cL_law 1288 = .ok (.invokevirtual 208, 3) := by decide +kernel
theorem dL_law_1291 : decode cL_law 1291 = .ok (.istore 6, 2) := by decide +kernel
theorem dL_law_1293 : decode cL_law 1293 = .ok (.goto 86, 3) := by decide +kernel
theorem dL_law_1296 : decode cL_law 1296 = .ok (.aload_n 1, 1) := by decide +kernel
theorem dL_law_1297 : decode cL_law 1297 = .ok (.aload_n 0, 1) := by decide +kernel
theorem dL_law_1298 : decode cL_law 1298 = .ok (.iload 4, 2) := by decide +kernel
theorem dL_law_1300 : decode cL_law 1300 = .ok (.iconst 1, 1) := by decide +kernel
theorem dL_law_1301 : decode cL_law 1301 = .ok (.iadd, 1) := by decide +kernel
theorem dL_law_1302 : decode cL_law 1302 = .ok (.iaload, 1) := by decide +kernel
theorem dL_law_1303 : decode cL_law 1303 = .ok (.aload_n 3, 1) := by decide +kernel
theorem dL_law_1304 : decode cL_law 1304 = .ok (.invokestatic 209, 3) := by decide +kernel
theorem dL_law_1307 : decode cL_law 1307 = .ok (.istore 5, 2) := by decide +kernel
theorem dL_law_1309 : decode cL_law 1309 = .ok (.aload_n 2, 1) := by decide +kernel
theorem dL_law_1310 : decode cL_law 1310 = .ok (.aload_n 0, 1) := by decide +kernel
theorem dL_law_1311 : decode cL_law 1311 = .ok (.iload 4, 2) := by decide +kernel
theorem dL_law_1313 : decode cL_law 1313 = .ok (.iconst 1, 1) := by decide +kernel
theorem dL_law_1314 : decode cL_law 1314 = .ok (.iadd, 1) := by decide +kernel
theorem dL_law_1315 : decode cL_law 1315 = .ok (.iaload, 1) := by decide +kernel
theorem dL_law_1316 : decode cL_law 1316 = .ok (.invokevirtual 211, 3) := by decide +kernel
theorem dL_law_1319 : decode cL_law 1319 = .ok (.istore 6, 2) := by decide +kernel
theorem dL_law_1321 : decode cL_law 1321 = .ok (.goto 58, 3) := by decide +kernel
theorem dL_law_1324 : decode cL_law 1324 = .ok (.aload_n 1, 1) := by decide +kernel
theorem dL_law_1325 : decode cL_law 1325 = .ok (.aload_n 0, 1) := by decide +kernel
theorem dL_law_1326 : decode cL_law 1326 = .ok (.iload 4, 2) := by decide +kernel
theorem dL_law_1328 : decode cL_law 1328 = .ok (.iconst 1, 1) := by decide +kernel
theorem dL_law_1329 : decode cL_law 1329 = .ok (.iadd, 1) := by decide +kernel
theorem dL_law_1330 : decode cL_law 1330 = .ok (.iaload, 1) := by decide +kernel
theorem dL_law_1331 : decode cL_law 1331 = .ok (.invokevirtual 212, 3) := by decide +kernel
theorem dL_law_1334 : decode cL_law 1334 = .ok (.pop, 1) := by decide +kernel
theorem dL_law_1335 : decode cL_law 1335 = .ok (.aload_n 2, 1) := by decide +kernel
theorem dL_law_1336 : decode cL_law 1336 = .ok (.aload_n 0, 1) := by decide +kernel
theorem dL_law_1337 : decode cL_law 1337 = .ok (.iload 4, 2) := by decide +kernel
theorem dL_law_1339 : decode cL_law 1339 = .ok (.iconst 1, 1) := by decide +kernel
theorem dL_law_1340 : decode cL_law 1340 = .ok (.iadd, 1) := by decide +kernel
theorem dL_law_1341 : decode cL_law 1341 = .ok (.iaload, 1) := by decide +kernel
theorem dL_law_1342 : decode cL_law 1342 = .ok (.invokevirtual 215, 3) := by decide +kernel
theorem dL_law_1345 : decode cL_law 1345 = .ok (.pop, 1) := by decide +kernel
theorem dL_law_1346 : decode cL_law 1346 = .ok (.goto 33, 3) := by decide +kernel
theorem dL_law_1349 : decode cL_law 1349 = .ok (.aload_n 1, 1) := by decide +kernel
theorem dL_law_1350 : decode cL_law 1350 = .ok (.aload_n 3, 1) := by decide +kernel
theorem dL_law_1351 : decode cL_law 1351 = .ok (.invokestatic 216, 3) := by decide +kernel
theorem dL_law_1354 : decode cL_law 1354 = .ok (.istore 5, 2) := by decide +kernel
theorem dL_law_1356 : decode cL_law 1356 = .ok (.aload_n 2, 1) := by decide +kernel
theorem dL_law_1357 : decode cL_law 1357 = .ok (.invokevirtual 218, 3) := by decide +kernel
theorem dL_law_1360 : decode cL_law 1360 = .ok (.istore 6, 2) := by decide +kernel
theorem dL_law_1362 : decode cL_law 1362 = .ok (.goto 17, 3) := by decide +kernel
theorem dL_law_1365 : decode cL_law 1365 = .ok (.aload_n 1, 1) := by decide +kernel
theorem dL_law_1366 : decode cL_law 1366 = .ok (.invokevirtual 219, 3) := by decide +kernel
theorem dL_law_1369 : decode cL_law 1369 = .ok (.aload_n 2, 1) := by decide +kernel
theorem dL_law_1370 : decode cL_law 1370 = .ok (.invokevirtual 223, 3) := by decide +kernel
theorem dL_law_1373 : decode cL_law 1373 = .ok (.lcmp, 1) := by decide +kernel
theorem dL_law_1374 : decode cL_law 1374 = .ok (.ifCond .eq 5, 3) := by decide +kernel
theorem dL_law_1377 : decode cL_law 1377 = .ok (.iconst 0, 1) := by decide +kernel
theorem dL_law_1378 : decode cL_law 1378 = .ok (.ireturn, 1) := by decide +kernel
theorem dL_law_1379 : decode cL_law 1379 = .ok (.iinc 4 6, 3) := by decide +kernel
theorem dL_law_1382 : decode cL_law 1382 = .ok (.goto (-1359), 3) := by decide +kernel
theorem dL_law_1385 : decode cL_law 1385 = .ok (.iconst 1, 1) := by decide +kernel
theorem dL_law_1386 : decode cL_law 1386 = .ok (.ireturn, 1) := by decide +kernel
def fL_law_1379 (L : Nat) (xs : Nat → Int32) (k23 : Sg → Int32 → Option Bool) (σ : Sg) (l4 : Int32) : Option Bool :=
  (k23 σ (l4 + 6))
theorem bL_law_1379 {X : Xc} {K : Kc} {L b cs ss : Nat} {xs : Nat → Int32} (C : MC X K cL_law 7 RL room_1) (hr : LH X K b L xs) (hfl : X.l.stackTraces = false) (hcs : cs + 12 ≤ 601024 ∧ ss + 72 ≤ 7293033) {k23 : Sg → Int32 → Option Bool} (hk23 : ∀ (σ : Sg) (l4 : Int32), GO X K 7 (lawQ K) (k23 σ l4) σ (cs + 12) (ss + 72) 23 [some (.ref b), some (.ref (X.ad 0)), some (.ref (X.ad 462)), some (.ref (X.ad 476)), some (.int (l4)), none, none] []) (σ : Sg) (l4 : Int32) : GO X K 7 (lawQ K) (fL_law_1379 L xs k23 σ l4) σ (cs + 12) (ss + 72) 1379 [some (.ref b), some (.ref (X.ad 0)), some (.ref (X.ad 462)), some (.ref (X.ad 476)), some (.int (l4)), none, none] [] := by
  unfold fL_law_1379
  refine g_iinc (pc := 1379) (v := l4 + 6) C dL_law_1379 rfl (rfl) (Nat.le_of_ble_eq_true rfl) rfl ?_
  refine g_goto (pc := 1382) (tgt := 23) C dL_law_1382 rfl ?_
  refine g_keep [true, true, true, true, true, false, false] ?_
  refine g_widen (cs' := cs + 12) (ss' := ss + 72) (by omega) (by omega) ?_
  exact hk23 σ (l4 + 6)
def fL_law_1365 (L : Nat) (xs : Nat → Int32) (k23 : Sg → Int32 → Option Bool) (σ : Sg) (l4 : Int32) : Option Bool :=
  (fX8_checksumN σ).bind fun r2 =>
  (fX9_checksum σ 462).bind fun r3 =>
  if (lg_cmp r2 r3.1) = 0 then
    (fL_law_1379 L xs k23 r3.2 l4)
  else
    some false
theorem bL_law_1365 {X : Xc} {K : Kc} {L b cs ss : Nat} {xs : Nat → Int32} (C : MC X K cL_law 7 RL room_1) (hr : LH X K b L xs) (hfl : X.l.stackTraces = false) (hcs : cs + 12 ≤ 601024 ∧ ss + 72 ≤ 7293033) {k23 : Sg → Int32 → Option Bool} (hk23 : ∀ (σ : Sg) (l4 : Int32), GO X K 7 (lawQ K) (k23 σ l4) σ (cs + 12) (ss + 72) 23 [some (.ref b), some (.ref (X.ad 0)), some (.ref (X.ad 462)), some (.ref (X.ad 476)), some (.int (l4)), none, none] []) (σ : Sg) (l4 : Int32) : GO X K 7 (lawQ K) (fL_law_1365 L xs k23 σ l4) σ (cs + 0) (ss + 0) 1365 [some (.ref b), some (.ref (X.ad 0)), some (.ref (X.ad 462)), some (.ref (X.ad 476)), some (.int (l4)), none, none] [] := by
  unfold fL_law_1365
  refine g_aload_n (pc := 1365) (i := 1) C dL_law_1365 rfl rfl ?_
  refine g_callVl (pc := 1366) (As := []) C (kX8_checksumN X σ) ok_dl rfl q_58_1 q_58_2 q_58_3 q_1_2 q_58_4 ⟨rfl, hdX8_checksumN⟩ ⟨Nat.le_of_ble_eq_true rfl, Nat.le_of_ble_eq_true rfl, rfl, rfl⟩ ⟨by show _ ≤ 601024; omega, by show _ ≤ 7293033; omega⟩ (Nat.le_of_ble_eq_true rfl) rfl rfl dL_law_1366 (fun r2 _ => ?_)
  refine g_aload_n (pc := 1369) (i := 2) C dL_law_1369 rfl rfl ?_
  refine g_callVl (pc := 1370) (As := []) C (kX9_checksum X σ 462 ok_mo) (blk ok_mo 0 rfl) rfl q_58_21 q_58_22 q_58_23 q_1_5 q_59_0 ⟨rfl, hdX9_checksum⟩ ⟨Nat.le_of_ble_eq_true rfl, Nat.le_of_ble_eq_true rfl, rfl, rfl⟩ ⟨by show _ ≤ 601024; omega, by show _ ≤ 7293033; omega⟩ (Nat.le_of_ble_eq_true rfl) rfl rfl dL_law_1370 (fun r3 _ => ?_)
  refine g_lcmp (pc := 1373) C dL_law_1373 ?_
  refine g_if_eq (pc := 1374) (tgt := 1379) C dL_law_1374 rfl ?_ ?_
  · refine g_keep [true, true, true, true, true, false, false] ?_
    refine g_widen (cs' := cs + 12) (ss' := ss + 72) (by omega) (by omega) ?_
    exact bL_law_1379 C hr hfl hcs hk23 r3.2 l4
  · refine g_iconst (pc := 1377) (v := 0) C dL_law_1377 (by decide) ?_
    exact g_law_f
def fL_law_1349 (L : Nat) (xs : Nat → Int32) (k23 : Sg → Int32 → Option Bool) (σ : Sg) (l4 : Int32) : Option Bool :=
  (fL_undo σ 476 1).bind fun r4 =>
  (fX9_undo r4.2 462).bind fun r5 =>
  (fL_law_1379 L xs k23 r5.2 l4)
theorem bL_law_1349 {X : Xc} {K : Kc} {L b cs ss : Nat} {xs : Nat → Int32} (C : MC X K cL_law 7 RL room_1) (hr : LH X K b L xs) (hfl : X.l.stackTraces = false) (hcs : cs + 12 ≤ 601024 ∧ ss + 72 ≤ 7293033) {k23 : Sg → Int32 → Option Bool} (hk23 : ∀ (σ : Sg) (l4 : Int32), GO X K 7 (lawQ K) (k23 σ l4) σ (cs + 12) (ss + 72) 23 [some (.ref b), some (.ref (X.ad 0)), some (.ref (X.ad 462)), some (.ref (X.ad 476)), some (.int (l4)), none, none] []) (σ : Sg) (l4 : Int32) : GO X K 7 (lawQ K) (fL_law_1349 L xs k23 σ l4) σ (cs + 0) (ss + 0) 1349 [some (.ref b), some (.ref (X.ad 0)), some (.ref (X.ad 462)), some (.ref (X.ad 476)), some (.int (l4)), none, none] [] := by
  unfold fL_law_1349
  refine g_aload_n (pc := 1349) (i := 1) C dL_law_1349 rfl rfl ?_
  refine g_aload_n (pc := 1350) (i := 3) C dL_law_1350 rfl rfl ?_
  refine g_callHi (pc := 1351) (As := [.ref (X.ad 0), .ref (X.ad 476)]) C (kL_undo X σ 476 1 ok_out hfl) q_57_14 q_57_15 q_6_18 q_57_16 hdL_undo ⟨Nat.le_of_ble_eq_true rfl, Nat.le_of_ble_eq_true rfl, rfl, rfl, by show _ ≤ 601024; omega, by show _ ≤ 7293033; omega⟩ (Nat.le_of_ble_eq_true rfl) rfl rfl dL_law_1351 (fun r4 _ => ?_)
  refine g_istore (pc := 1354) C dL_law_1354 (Nat.le_of_ble_eq_true rfl) rfl ?_
  refine g_aload_n (pc := 1356) (i := 2) C dL_law_1356 rfl rfl ?_
  refine g_callVi (pc := 1357) (As := []) C (kX9_undo X r4.2 462 ok_mo) (blk ok_mo 0 rfl) rfl q_57_21 q_57_22 q_57_23 q_1_5 q_58_0 ⟨rfl, hdX9_undo⟩ ⟨Nat.le_of_ble_eq_true rfl, Nat.le_of_ble_eq_true rfl, rfl, rfl⟩ ⟨by show _ ≤ 601024; omega, by show _ ≤ 7293033; omega⟩ (Nat.le_of_ble_eq_true rfl) rfl rfl dL_law_1357 (fun r5 _ => ?_)
  refine g_istore (pc := 1360) C dL_law_1360 (Nat.le_of_ble_eq_true rfl) rfl ?_
  refine g_goto (pc := 1362) (tgt := 1379) C dL_law_1362 rfl ?_
  refine g_keep [true, true, true, true, true, false, false] ?_
  refine g_widen (cs' := cs + 12) (ss' := ss + 72) (by omega) (by omega) ?_
  exact bL_law_1379 C hr hfl hcs hk23 r5.2 l4
def fL_law_1324 (L : Nat) (xs : Nat → Int32) (k23 : Sg → Int32 → Option Bool) (σ : Sg) (l4 : Int32) : Option Bool :=
  if ck (l4 + 1) L then
    (fX8_character σ (xs (l4 + 1).toNatClampNeg)).bind fun r6 =>
    if ck (l4 + 1) L then
      (fX9_character σ 462 (xs (l4 + 1).toNatClampNeg)).bind fun r7 =>
      (fL_law_1379 L xs k23 r7.2 l4)
    else none
  else none
theorem bL_law_1324 {X : Xc} {K : Kc} {L b cs ss : Nat} {xs : Nat → Int32} (C : MC X K cL_law 7 RL room_1) (hr : LH X K b L xs) (hfl : X.l.stackTraces = false) (hcs : cs + 12 ≤ 601024 ∧ ss + 72 ≤ 7293033) {k23 : Sg → Int32 → Option Bool} (hk23 : ∀ (σ : Sg) (l4 : Int32), GO X K 7 (lawQ K) (k23 σ l4) σ (cs + 12) (ss + 72) 23 [some (.ref b), some (.ref (X.ad 0)), some (.ref (X.ad 462)), some (.ref (X.ad 476)), some (.int (l4)), none, none] []) (σ : Sg) (l4 : Int32) : GO X K 7 (lawQ K) (fL_law_1324 L xs k23 σ l4) σ (cs + 0) (ss + 0) 1324 [some (.ref b), some (.ref (X.ad 0)), some (.ref (X.ad 462)), some (.ref (X.ad 476)), some (.int (l4)), none, none] [] := by
  unfold fL_law_1324
  refine g_aload_n (pc := 1324) (i := 1) C dL_law_1324 rfl rfl ?_
  refine g_aload_n (pc := 1325) (i := 0) C dL_law_1325 rfl rfl ?_
  refine g_iload (pc := 1326) C dL_law_1326 rfl ?_
  refine g_iconst (pc := 1328) (v := 1) C dL_law_1328 (by decide) ?_
  refine g_iadd (pc := 1329) C dL_law_1329 ?_
  refine g_sld (pc := 1330) C hr dL_law_1330 ?_
  refine g_callVi (pc := 1331) (As := [.int (xs (l4 + 1).toNatClampNeg)]) C (kX8_character X σ (xs (l4 + 1).toNatClampNeg)) ok_dl rfl q_57_5 q_57_6 q_57_7 q_1_2 q_57_8 ⟨rfl, hdX8_character⟩ ⟨Nat.le_of_ble_eq_true rfl, Nat.le_of_ble_eq_true rfl, rfl, rfl⟩ ⟨by show _ ≤ 601024; omega, by show _ ≤ 7293033; omega⟩ (Nat.le_of_ble_eq_true rfl) rfl rfl dL_law_1331 (fun r6 _ => ?_)
  refine g_pop (pc := 1334) C dL_law_1334 rfl ?_
  refine g_aload_n (pc := 1335) (i := 2) C dL_law_1335 rfl rfl ?_
  refine g_aload_n (pc := 1336) (i := 0) C dL_law_1336 rfl rfl ?_
  refine g_iload (pc := 1337) C dL_law_1337 rfl ?_
  refine g_iconst (pc := 1339) (v := 1) C dL_law_1339 (by decide) ?_
  refine g_iadd (pc := 1340) C dL_law_1340 ?_
  refine g_sld (pc := 1341) C hr dL_law_1341 ?_
  refine g_callVi (pc := 1342) (As := [.int (xs (l4 + 1).toNatClampNeg)]) C (kX9_character X σ 462 (xs (l4 + 1).toNatClampNeg) ok_mo) (blk ok_mo 0 rfl) rfl q_57_10 q_57_11 q_57_12 q_1_5 q_57_13 ⟨rfl, hdX9_character⟩ ⟨Nat.le_of_ble_eq_true rfl, Nat.le_of_ble_eq_true rfl, rfl, rfl⟩ ⟨by show _ ≤ 601024; omega, by show _ ≤ 7293033; omega⟩ (Nat.le_of_ble_eq_true rfl) rfl rfl dL_law_1342 (fun r7 _ => ?_)
  refine g_pop (pc := 1345) C dL_law_1345 rfl ?_
  refine g_goto (pc := 1346) (tgt := 1379) C dL_law_1346 rfl ?_
  refine g_keep [true, true, true, true, true, false, false] ?_
  refine g_widen (cs' := cs + 12) (ss' := ss + 72) (by omega) (by omega) ?_
  exact bL_law_1379 C hr hfl hcs hk23 r7.2 l4
def fL_law_1296 (L : Nat) (xs : Nat → Int32) (k23 : Sg → Int32 → Option Bool) (σ : Sg) (l4 : Int32) : Option Bool :=
  if ck (l4 + 1) L then
    (fL_write σ (xs (l4 + 1).toNatClampNeg) 476 1).bind fun r8 =>
    if ck (l4 + 1) L then
      (fX9_write r8.2 462 (xs (l4 + 1).toNatClampNeg)).bind fun r9 =>
      (fL_law_1379 L xs k23 r9.2 l4)
    else none
  else none
theorem bL_law_1296 {X : Xc} {K : Kc} {L b cs ss : Nat} {xs : Nat → Int32} (C : MC X K cL_law 7 RL room_1) (hr : LH X K b L xs) (hfl : X.l.stackTraces = false) (hcs : cs + 12 ≤ 601024 ∧ ss + 72 ≤ 7293033) {k23 : Sg → Int32 → Option Bool} (hk23 : ∀ (σ : Sg) (l4 : Int32), GO X K 7 (lawQ K) (k23 σ l4) σ (cs + 12) (ss + 72) 23 [some (.ref b), some (.ref (X.ad 0)), some (.ref (X.ad 462)), some (.ref (X.ad 476)), some (.int (l4)), none, none] []) (σ : Sg) (l4 : Int32) : GO X K 7 (lawQ K) (fL_law_1296 L xs k23 σ l4) σ (cs + 0) (ss + 0) 1296 [some (.ref b), some (.ref (X.ad 0)), some (.ref (X.ad 462)), some (.ref (X.ad 476)), some (.int (l4)), none, none] [] := by
  unfold fL_law_1296
  refine g_aload_n (pc := 1296) (i := 1) C dL_law_1296 rfl rfl ?_
  refine g_aload_n (pc := 1297) (i := 0) C dL_law_1297 rfl rfl ?_
  refine g_iload (pc := 1298) C dL_law_1298 rfl ?_
  refine g_iconst (pc := 1300) (v := 1) C dL_law_1300 (by decide) ?_
  refine g_iadd (pc := 1301) C dL_law_1301 ?_
  refine g_sld (pc := 1302) C hr dL_law_1302 ?_
  refine g_aload_n (pc := 1303) (i := 3) C dL_law_1303 rfl rfl ?_
  refine g_callHi (pc := 1304) (As := [.ref (X.ad 0), .int (xs (l4 + 1).toNatClampNeg), .ref (X.ad 476)]) C (kL_write X σ (xs (l4 + 1).toNatClampNeg) 476 1 ok_out hfl) q_54_20 q_54_21 q_6_18 q_54_22 hdL_write ⟨Nat.le_of_ble_eq_true rfl, Nat.le_of_ble_eq_true rfl, rfl, rfl, by show _ ≤ 601024; omega, by show _ ≤ 7293033; omega⟩ (Nat.le_of_ble_eq_true rfl) rfl rfl dL_law_1304 (fun r8 _ => ?_)
  refine g_istore (pc := 1307) C dL_law_1307 (Nat.le_of_ble_eq_true rfl) rfl ?_
  refine g_aload_n (pc := 1309) (i := 2) C dL_law_1309 rfl rfl ?_
  refine g_aload_n (pc := 1310) (i := 0) C dL_law_1310 rfl rfl ?_
  refine g_iload (pc := 1311) C dL_law_1311 rfl ?_
  refine g_iconst (pc := 1313) (v := 1) C dL_law_1313 (by decide) ?_
  refine g_iadd (pc := 1314) C dL_law_1314 ?_
  refine g_sld (pc := 1315) C hr dL_law_1315 ?_
  refine g_callVi (pc := 1316) (As := [.int (xs (l4 + 1).toNatClampNeg)]) C (kX9_write X r8.2 462 (xs (l4 + 1).toNatClampNeg) ok_mo) (blk ok_mo 0 rfl) rfl q_56_8 q_56_9 q_56_10 q_1_5 q_56_11 ⟨rfl, hdX9_write⟩ ⟨Nat.le_of_ble_eq_true rfl, Nat.le_of_ble_eq_true rfl, rfl, rfl⟩ ⟨by show _ ≤ 601024; omega, by show _ ≤ 7293033; omega⟩ (Nat.le_of_ble_eq_true rfl) rfl rfl dL_law_1316 (fun r9 _ => ?_)
  refine g_istore (pc := 1319) C dL_law_1319 (Nat.le_of_ble_eq_true rfl) rfl ?_
  refine g_goto (pc := 1321) (tgt := 1379) C dL_law_1321 rfl ?_
  refine g_keep [true, true, true, true, true, false, false] ?_
  refine g_widen (cs' := cs + 12) (ss' := ss + 72) (by omega) (by omega) ?_
  exact bL_law_1379 C hr hfl hcs hk23 r9.2 l4
def fL_law_1280 (L : Nat) (xs : Nat → Int32) (k23 : Sg → Int32 → Option Bool) (σ : Sg) (l4 : Int32) : Option Bool :=
  (fL_read σ 476 1).bind fun r10 =>
  (fX9_read r10.2 462).bind fun r11 =>
  (fL_law_1379 L xs k23 r11.2 l4)
theorem bL_law_1280 {X : Xc} {K : Kc} {L b cs ss : Nat} {xs : Nat → Int32} (C : MC X K cL_law 7 RL room_1) (hr : LH X K b L xs) (hfl : X.l.stackTraces = false) (hcs : cs + 12 ≤ 601024 ∧ ss + 72 ≤ 7293033) {k23 : Sg → Int32 → Option Bool} (hk23 : ∀ (σ : Sg) (l4 : Int32), GO X K 7 (lawQ K) (k23 σ l4) σ (cs + 12) (ss + 72) 23 [some (.ref b), some (.ref (X.ad 0)), some (.ref (X.ad 462)), some (.ref (X.ad 476)), some (.int (l4)), none, none] []) (σ : Sg) (l4 : Int32) : GO X K 7 (lawQ K) (fL_law_1280 L xs k23 σ l4) σ (cs + 0) (ss + 0) 1280 [some (.ref b), some (.ref (X.ad 0)), some (.ref (X.ad 462)), some (.ref (X.ad 476)), some (.int (l4)), none, none] [] := by
  unfold fL_law_1280
  refine g_aload_n (pc := 1280) (i := 1) C dL_law_1280 rfl rfl ?_
  refine g_aload_n (pc := 1281) (i := 3) C dL_law_1281 rfl rfl ?_
  refine g_callHi (pc := 1282) (As := [.ref (X.ad 0), .ref (X.ad 476)]) C (kL_read X σ 476 1 ok_out hfl) q_54_7 q_54_8 q_6_18 q_54_9 hdL_read ⟨Nat.le_of_ble_eq_true rfl, Nat.le_of_ble_eq_true rfl, rfl, rfl, by show _ ≤ 601024; omega, by show _ ≤ 7293033; omega⟩ (Nat.le_of_ble_eq_true rfl) rfl rfl dL_law_1282 (fun r10 _ => ?_)
  refine g_istore (pc := 1285) C dL_law_1285 (Nat.le_of_ble_eq_true rfl) rfl ?_
  refine g_aload_n (pc := 1287) (i := 2) C dL_law_1287 rfl rfl ?_
  refine g_callVi (pc := 1288) (As := []) C (kX9_read X r10.2 462 ok_mo) (blk ok_mo 0 rfl) rfl q_54_16 q_54_17 q_54_18 q_1_5 q_54_19 ⟨rfl, hdX9_read⟩ ⟨Nat.le_of_ble_eq_true rfl, Nat.le_of_ble_eq_true rfl, rfl, rfl⟩ ⟨by show _ ≤ 601024; omega, by show _ ≤ 7293033; omega⟩ (Nat.le_of_ble_eq_true rfl) rfl rfl dL_law_1288 (fun r11 _ => ?_)
  refine g_istore (pc := 1291) C dL_law_1291 (Nat.le_of_ble_eq_true rfl) rfl ?_
  refine g_goto (pc := 1293) (tgt := 1379) C dL_law_1293 rfl ?_
  refine g_keep [true, true, true, true, true, false, false] ?_
  refine g_widen (cs' := cs + 12) (ss' := ss + 72) (by omega) (by omega) ?_
  exact bL_law_1379 C hr hfl hcs hk23 r11.2 l4
def fL_law_1267 (L : Nat) (xs : Nat → Int32) (k23 : Sg → Int32 → Option Bool) (σ : Sg) (l4 : Int32) : Option Bool :=
  (fX8_fault σ).bind fun r12 =>
  (fX9_fault r12.2 462).bind fun r13 =>
  (fL_law_1379 L xs k23 r13.2 l4)
theorem bL_law_1267 {X : Xc} {K : Kc} {L b cs ss : Nat} {xs : Nat → Int32} (C : MC X K cL_law 7 RL room_1) (hr : LH X K b L xs) (hfl : X.l.stackTraces = false) (hcs : cs + 12 ≤ 601024 ∧ ss + 72 ≤ 7293033) {k23 : Sg → Int32 → Option Bool} (hk23 : ∀ (σ : Sg) (l4 : Int32), GO X K 7 (lawQ K) (k23 σ l4) σ (cs + 12) (ss + 72) 23 [some (.ref b), some (.ref (X.ad 0)), some (.ref (X.ad 462)), some (.ref (X.ad 476)), some (.int (l4)), none, none] []) (σ : Sg) (l4 : Int32) : GO X K 7 (lawQ K) (fL_law_1267 L xs k23 σ l4) σ (cs + 0) (ss + 0) 1267 [some (.ref b), some (.ref (X.ad 0)), some (.ref (X.ad 462)), some (.ref (X.ad 476)), some (.int (l4)), none, none] [] := by
  unfold fL_law_1267
  refine g_aload_n (pc := 1267) (i := 1) C dL_law_1267 rfl rfl ?_
  refine g_callVi (pc := 1268) (As := []) C (kX8_fault X σ) ok_dl rfl q_50_1 q_50_2 q_50_3 q_1_2 q_50_4 ⟨rfl, hdX8_fault⟩ ⟨Nat.le_of_ble_eq_true rfl, Nat.le_of_ble_eq_true rfl, rfl, rfl⟩ ⟨by show _ ≤ 601024; omega, by show _ ≤ 7293033; omega⟩ (Nat.le_of_ble_eq_true rfl) rfl rfl dL_law_1268 (fun r12 _ => ?_)
  refine g_pop (pc := 1271) C dL_law_1271 rfl ?_
  refine g_aload_n (pc := 1272) (i := 2) C dL_law_1272 rfl rfl ?_
  refine g_callVi (pc := 1273) (As := []) C (kX9_fault X r12.2 462 ok_mo) (blk ok_mo 0 rfl) rfl q_52_9 q_52_10 q_52_11 q_1_5 q_52_12 ⟨rfl, hdX9_fault⟩ ⟨Nat.le_of_ble_eq_true rfl, Nat.le_of_ble_eq_true rfl, rfl, rfl⟩ ⟨by show _ ≤ 601024; omega, by show _ ≤ 7293033; omega⟩ (Nat.le_of_ble_eq_true rfl) rfl rfl dL_law_1273 (fun r13 _ => ?_)
  refine g_pop (pc := 1276) C dL_law_1276 rfl ?_
  refine g_goto (pc := 1277) (tgt := 1379) C dL_law_1277 rfl ?_
  refine g_keep [true, true, true, true, true, false, false] ?_
  refine g_widen (cs' := cs + 12) (ss' := ss + 72) (by omega) (by omega) ?_
  exact bL_law_1379 C hr hfl hcs hk23 r13.2 l4
def fL_law_1254 (L : Nat) (xs : Nat → Int32) (k23 : Sg → Int32 → Option Bool) (σ : Sg) (l4 : Int32) : Option Bool :=
  (fX8_clearText σ).bind fun r14 =>
  (fX9_clearText r14.2 462).bind fun r15 =>
  (fL_law_1379 L xs k23 r15.2 l4)
theorem bL_law_1254 {X : Xc} {K : Kc} {L b cs ss : Nat} {xs : Nat → Int32} (C : MC X K cL_law 7 RL room_1) (hr : LH X K b L xs) (hfl : X.l.stackTraces = false) (hcs : cs + 12 ≤ 601024 ∧ ss + 72 ≤ 7293033) {k23 : Sg → Int32 → Option Bool} (hk23 : ∀ (σ : Sg) (l4 : Int32), GO X K 7 (lawQ K) (k23 σ l4) σ (cs + 12) (ss + 72) 23 [some (.ref b), some (.ref (X.ad 0)), some (.ref (X.ad 462)), some (.ref (X.ad 476)), some (.int (l4)), none, none] []) (σ : Sg) (l4 : Int32) : GO X K 7 (lawQ K) (fL_law_1254 L xs k23 σ l4) σ (cs + 0) (ss + 0) 1254 [some (.ref b), some (.ref (X.ad 0)), some (.ref (X.ad 462)), some (.ref (X.ad 476)), some (.int (l4)), none, none] [] := by
  unfold fL_law_1254
  refine g_aload_n (pc := 1254) (i := 1) C dL_law_1254 rfl rfl ?_
  refine g_callVi (pc := 1255) (As := []) C (kX8_clearText X σ) ok_dl rfl q_49_13 q_49_14 q_49_15 q_1_2 q_49_16 ⟨rfl, hdX8_clearText⟩ ⟨Nat.le_of_ble_eq_true rfl, Nat.le_of_ble_eq_true rfl, rfl, rfl⟩ ⟨by show _ ≤ 601024; omega, by show _ ≤ 7293033; omega⟩ (Nat.le_of_ble_eq_true rfl) rfl rfl dL_law_1255 (fun r14 _ => ?_)
  refine g_pop (pc := 1258) C dL_law_1258 rfl ?_
  refine g_aload_n (pc := 1259) (i := 2) C dL_law_1259 rfl rfl ?_
  refine g_callVi (pc := 1260) (As := []) C (kX9_clearText X r14.2 462 ok_mo) (blk ok_mo 0 rfl) rfl q_49_21 q_49_22 q_49_23 q_1_5 q_50_0 ⟨rfl, hdX9_clearText⟩ ⟨Nat.le_of_ble_eq_true rfl, Nat.le_of_ble_eq_true rfl, rfl, rfl⟩ ⟨by show _ ≤ 601024; omega, by show _ ≤ 7293033; omega⟩ (Nat.le_of_ble_eq_true rfl) rfl rfl dL_law_1260 (fun r15 _ => ?_)
  refine g_pop (pc := 1263) C dL_law_1263 rfl ?_
  refine g_goto (pc := 1264) (tgt := 1379) C dL_law_1264 rfl ?_
  refine g_keep [true, true, true, true, true, false, false] ?_
  refine g_widen (cs' := cs + 12) (ss' := ss + 72) (by omega) (by omega) ?_
  exact bL_law_1379 C hr hfl hcs hk23 r15.2 l4
def fL_law_1226 (L : Nat) (xs : Nat → Int32) (k23 : Sg → Int32 → Option Bool) (σ : Sg) (l4 : Int32) : Option Bool :=
  if ck (l4 + 1) L then
    (fL_type σ (xs (l4 + 1).toNatClampNeg) 476 1).bind fun r16 =>
    if ck (l4 + 1) L then
      (fX9_type r16.2 462 (xs (l4 + 1).toNatClampNeg)).bind fun r17 =>
      (fL_law_1379 L xs k23 r17.2 l4)
    else none
  else none
theorem bL_law_1226 {X : Xc} {K : Kc} {L b cs ss : Nat} {xs : Nat → Int32} (C : MC X K cL_law 7 RL room_1) (hr : LH X K b L xs) (hfl : X.l.stackTraces = false) (hcs : cs + 12 ≤ 601024 ∧ ss + 72 ≤ 7293033) {k23 : Sg → Int32 → Option Bool} (hk23 : ∀ (σ : Sg) (l4 : Int32), GO X K 7 (lawQ K) (k23 σ l4) σ (cs + 12) (ss + 72) 23 [some (.ref b), some (.ref (X.ad 0)), some (.ref (X.ad 462)), some (.ref (X.ad 476)), some (.int (l4)), none, none] []) (σ : Sg) (l4 : Int32) : GO X K 7 (lawQ K) (fL_law_1226 L xs k23 σ l4) σ (cs + 0) (ss + 0) 1226 [some (.ref b), some (.ref (X.ad 0)), some (.ref (X.ad 462)), some (.ref (X.ad 476)), some (.int (l4)), none, none] [] := by
  unfold fL_law_1226
  refine g_aload_n (pc := 1226) (i := 1) C dL_law_1226 rfl rfl ?_
  refine g_aload_n (pc := 1227) (i := 0) C dL_law_1227 rfl rfl ?_
  refine g_iload (pc := 1228) C dL_law_1228 rfl ?_
  refine g_iconst (pc := 1230) (v := 1) C dL_law_1230 (by decide) ?_
  refine g_iadd (pc := 1231) C dL_law_1231 ?_
  refine g_sld (pc := 1232) C hr dL_law_1232 ?_
  refine g_aload_n (pc := 1233) (i := 3) C dL_law_1233 rfl rfl ?_
  refine g_callHi (pc := 1234) (As := [.ref (X.ad 0), .int (xs (l4 + 1).toNatClampNeg), .ref (X.ad 476)]) C (kL_type X σ (xs (l4 + 1).toNatClampNeg) 476 1 ok_out hfl) q_48_16 q_48_17 q_6_18 q_48_18 hdL_type ⟨Nat.le_of_ble_eq_true rfl, Nat.le_of_ble_eq_true rfl, rfl, rfl, by show _ ≤ 601024; omega, by show _ ≤ 7293033; omega⟩ (Nat.le_of_ble_eq_true rfl) rfl rfl dL_law_1234 (fun r16 _ => ?_)
  refine g_istore (pc := 1237) C dL_law_1237 (Nat.le_of_ble_eq_true rfl) rfl ?_
  refine g_aload_n (pc := 1239) (i := 2) C dL_law_1239 rfl rfl ?_
  refine g_aload_n (pc := 1240) (i := 0) C dL_law_1240 rfl rfl ?_
  refine g_iload (pc := 1241) C dL_law_1241 rfl ?_
  refine g_iconst (pc := 1243) (v := 1) C dL_law_1243 (by decide) ?_
  refine g_iadd (pc := 1244) C dL_law_1244 ?_
  refine g_sld (pc := 1245) C hr dL_law_1245 ?_
  refine g_callVi (pc := 1246) (As := [.int (xs (l4 + 1).toNatClampNeg)]) C (kX9_type X r16.2 462 (xs (l4 + 1).toNatClampNeg) ok_mo) (blk ok_mo 0 rfl) rfl q_49_8 q_49_9 q_49_10 q_1_5 q_49_11 ⟨rfl, hdX9_type⟩ ⟨Nat.le_of_ble_eq_true rfl, Nat.le_of_ble_eq_true rfl, rfl, rfl⟩ ⟨by show _ ≤ 601024; omega, by show _ ≤ 7293033; omega⟩ (Nat.le_of_ble_eq_true rfl) rfl rfl dL_law_1246 (fun r17 _ => ?_)
  refine g_istore (pc := 1249) C dL_law_1249 (Nat.le_of_ble_eq_true rfl) rfl ?_
  refine g_goto (pc := 1251) (tgt := 1379) C dL_law_1251 rfl ?_
  refine g_keep [true, true, true, true, true, false, false] ?_
  refine g_widen (cs' := cs + 12) (ss' := ss + 72) (by omega) (by omega) ?_
  exact bL_law_1379 C hr hfl hcs hk23 r17.2 l4
def fL_law_1198 (L : Nat) (xs : Nat → Int32) (k23 : Sg → Int32 → Option Bool) (σ : Sg) (l4 : Int32) : Option Bool :=
  if ck (l4 + 1) L then
    (fL_restore σ (xs (l4 + 1).toNatClampNeg) 476 1).bind fun r18 =>
    if ck (l4 + 1) L then
      (fX9_restore r18.2 462 (xs (l4 + 1).toNatClampNeg)).bind fun r19 =>
      (fL_law_1379 L xs k23 r19.2 l4)
    else none
  else none
theorem bL_law_1198 {X : Xc} {K : Kc} {L b cs ss : Nat} {xs : Nat → Int32} (C : MC X K cL_law 7 RL room_1) (hr : LH X K b L xs) (hfl : X.l.stackTraces = false) (hcs : cs + 12 ≤ 601024 ∧ ss + 72 ≤ 7293033) {k23 : Sg → Int32 → Option Bool} (hk23 : ∀ (σ : Sg) (l4 : Int32), GO X K 7 (lawQ K) (k23 σ l4) σ (cs + 12) (ss + 72) 23 [some (.ref b), some (.ref (X.ad 0)), some (.ref (X.ad 462)), some (.ref (X.ad 476)), some (.int (l4)), none, none] []) (σ : Sg) (l4 : Int32) : GO X K 7 (lawQ K) (fL_law_1198 L xs k23 σ l4) σ (cs + 0) (ss + 0) 1198 [some (.ref b), some (.ref (X.ad 0)), some (.ref (X.ad 462)), some (.ref (X.ad 476)), some (.int (l4)), none, none] [] := by
  unfold fL_law_1198
  refine g_aload_n (pc := 1198) (i := 1) C dL_law_1198 rfl rfl ?_
  refine g_aload_n (pc := 1199) (i := 0) C dL_law_1199 rfl rfl ?_
  refine g_iload (pc := 1200) C dL_law_1200 rfl ?_
  refine g_iconst (pc := 1202) (v := 1) C dL_law_1202 (by decide) ?_
  refine g_iadd (pc := 1203) C dL_law_1203 ?_
  refine g_sld (pc := 1204) C hr dL_law_1204 ?_
  refine g_aload_n (pc := 1205) (i := 3) C dL_law_1205 rfl rfl ?_
  refine g_callHi (pc := 1206) (As := [.ref (X.ad 0), .int (xs (l4 + 1).toNatClampNeg), .ref (X.ad 476)]) C (kL_restore X σ (xs (l4 + 1).toNatClampNeg) 476 1 ok_out hfl) q_47_7 q_47_8 q_6_18 q_47_9 hdL_restore ⟨Nat.le_of_ble_eq_true rfl, Nat.le_of_ble_eq_true rfl, rfl, rfl, by show _ ≤ 601024; omega, by show _ ≤ 7293033; omega⟩ (Nat.le_of_ble_eq_true rfl) rfl rfl dL_law_1206 (fun r18 _ => ?_)
  refine g_istore (pc := 1209) C dL_law_1209 (Nat.le_of_ble_eq_true rfl) rfl ?_
  refine g_aload_n (pc := 1211) (i := 2) C dL_law_1211 rfl rfl ?_
  refine g_aload_n (pc := 1212) (i := 0) C dL_law_1212 rfl rfl ?_
  refine g_iload (pc := 1213) C dL_law_1213 rfl ?_
  refine g_iconst (pc := 1215) (v := 1) C dL_law_1215 (by decide) ?_
  refine g_iadd (pc := 1216) C dL_law_1216 ?_
  refine g_sld (pc := 1217) C hr dL_law_1217 ?_
  refine g_callVi (pc := 1218) (As := [.int (xs (l4 + 1).toNatClampNeg)]) C (kX9_restore X r18.2 462 (xs (l4 + 1).toNatClampNeg) ok_mo) (blk ok_mo 0 rfl) rfl q_48_8 q_48_9 q_48_10 q_1_5 q_48_11 ⟨rfl, hdX9_restore⟩ ⟨Nat.le_of_ble_eq_true rfl, Nat.le_of_ble_eq_true rfl, rfl, rfl⟩ ⟨by show _ ≤ 601024; omega, by show _ ≤ 7293033; omega⟩ (Nat.le_of_ble_eq_true rfl) rfl rfl dL_law_1218 (fun r19 _ => ?_)
  refine g_istore (pc := 1221) C dL_law_1221 (Nat.le_of_ble_eq_true rfl) rfl ?_
  refine g_goto (pc := 1223) (tgt := 1379) C dL_law_1223 rfl ?_
  refine g_keep [true, true, true, true, true, false, false] ?_
  refine g_widen (cs' := cs + 12) (ss' := ss + 72) (by omega) (by omega) ?_
  exact bL_law_1379 C hr hfl hcs hk23 r19.2 l4
def fL_law_1170 (L : Nat) (xs : Nat → Int32) (k23 : Sg → Int32 → Option Bool) (σ : Sg) (l4 : Int32) : Option Bool :=
  if ck (l4 + 1) L then
    (fL_store σ (xs (l4 + 1).toNatClampNeg) 476 1).bind fun r20 =>
    if ck (l4 + 1) L then
      (fX9_store r20.2 462 (xs (l4 + 1).toNatClampNeg)).bind fun r21 =>
      (fL_law_1379 L xs k23 r21.2 l4)
    else none
  else none
theorem bL_law_1170 {X : Xc} {K : Kc} {L b cs ss : Nat} {xs : Nat → Int32} (C : MC X K cL_law 7 RL room_1) (hr : LH X K b L xs) (hfl : X.l.stackTraces = false) (hcs : cs + 12 ≤ 601024 ∧ ss + 72 ≤ 7293033) {k23 : Sg → Int32 → Option Bool} (hk23 : ∀ (σ : Sg) (l4 : Int32), GO X K 7 (lawQ K) (k23 σ l4) σ (cs + 12) (ss + 72) 23 [some (.ref b), some (.ref (X.ad 0)), some (.ref (X.ad 462)), some (.ref (X.ad 476)), some (.int (l4)), none, none] []) (σ : Sg) (l4 : Int32) : GO X K 7 (lawQ K) (fL_law_1170 L xs k23 σ l4) σ (cs + 0) (ss + 0) 1170 [some (.ref b), some (.ref (X.ad 0)), some (.ref (X.ad 462)), some (.ref (X.ad 476)), some (.int (l4)), none, none] [] := by
  unfold fL_law_1170
  refine g_aload_n (pc := 1170) (i := 1) C dL_law_1170 rfl rfl ?_
  refine g_aload_n (pc := 1171) (i := 0) C dL_law_1171 rfl rfl ?_
  refine g_iload (pc := 1172) C dL_law_1172 rfl ?_
  refine g_iconst (pc := 1174) (v := 1) C dL_law_1174 (by decide) ?_
  refine g_iadd (pc := 1175) C dL_law_1175 ?_
  refine g_sld (pc := 1176) C hr dL_law_1176 ?_
  refine g_aload_n (pc := 1177) (i := 3) C dL_law_1177 rfl rfl ?_
  refine g_callHi (pc := 1178) (As := [.ref (X.ad 0), .int (xs (l4 + 1).toNatClampNeg), .ref (X.ad 476)]) C (kL_store X σ (xs (l4 + 1).toNatClampNeg) 476 1 ok_out hfl) q_46_13 q_46_14 q_6_18 q_46_15 hdL_store ⟨Nat.le_of_ble_eq_true rfl, Nat.le_of_ble_eq_true rfl, rfl, rfl, by show _ ≤ 601024; omega, by show _ ≤ 7293033; omega⟩ (Nat.le_of_ble_eq_true rfl) rfl rfl dL_law_1178 (fun r20 _ => ?_)
  refine g_istore (pc := 1181) C dL_law_1181 (Nat.le_of_ble_eq_true rfl) rfl ?_
  refine g_aload_n (pc := 1183) (i := 2) C dL_law_1183 rfl rfl ?_
  refine g_aload_n (pc := 1184) (i := 0) C dL_law_1184 rfl rfl ?_
  refine g_iload (pc := 1185) C dL_law_1185 rfl ?_
  refine g_iconst (pc := 1187) (v := 1) C dL_law_1187 (by decide) ?_
  refine g_iadd (pc := 1188) C dL_law_1188 ?_
  refine g_sld (pc := 1189) C hr dL_law_1189 ?_
  refine g_callVi (pc := 1190) (As := [.int (xs (l4 + 1).toNatClampNeg)]) C (kX9_store X r20.2 462 (xs (l4 + 1).toNatClampNeg) ok_mo) (blk ok_mo 0 rfl) rfl q_47_3 q_47_4 q_47_5 q_1_5 q_47_6 ⟨rfl, hdX9_store⟩ ⟨Nat.le_of_ble_eq_true rfl, Nat.le_of_ble_eq_true rfl, rfl, rfl⟩ ⟨by show _ ≤ 601024; omega, by show _ ≤ 7293033; omega⟩ (Nat.le_of_ble_eq_true rfl) rfl rfl dL_law_1190 (fun r21 _ => ?_)
  refine g_istore (pc := 1193) C dL_law_1193 (Nat.le_of_ble_eq_true rfl) rfl ?_
  refine g_goto (pc := 1195) (tgt := 1379) C dL_law_1195 rfl ?_
  refine g_keep [true, true, true, true, true, false, false] ?_
  refine g_widen (cs' := cs + 12) (ss' := ss + 72) (by omega) (by omega) ?_
  exact bL_law_1379 C hr hfl hcs hk23 r21.2 l4
def fL_law_1133 (L : Nat) (xs : Nat → Int32) (k23 : Sg → Int32 → Option Bool) (σ : Sg) (l4 : Int32) : Option Bool :=
  if ck (l4 + 1) L then
    if ck (l4 + 2) L then
      (fX8_dropAt σ (xs (l4 + 1).toNatClampNeg) (xs (l4 + 2).toNatClampNeg)).bind fun r22 =>
      if ck (l4 + 1) L then
        if ck (l4 + 2) L then
          (fX9_dropAt σ 462 (xs (l4 + 1).toNatClampNeg) (xs (l4 + 2).toNatClampNeg)).bind fun r23 =>
          (fL_law_1379 L xs k23 r23.2 l4)
        else none
      else none
    else none
  else none
theorem bL_law_1133 {X : Xc} {K : Kc} {L b cs ss : Nat} {xs : Nat → Int32} (C : MC X K cL_law 7 RL room_1) (hr : LH X K b L xs) (hfl : X.l.stackTraces = false) (hcs : cs + 12 ≤ 601024 ∧ ss + 72 ≤ 7293033) {k23 : Sg → Int32 → Option Bool} (hk23 : ∀ (σ : Sg) (l4 : Int32), GO X K 7 (lawQ K) (k23 σ l4) σ (cs + 12) (ss + 72) 23 [some (.ref b), some (.ref (X.ad 0)), some (.ref (X.ad 462)), some (.ref (X.ad 476)), some (.int (l4)), none, none] []) (σ : Sg) (l4 : Int32) : GO X K 7 (lawQ K) (fL_law_1133 L xs k23 σ l4) σ (cs + 0) (ss + 0) 1133 [some (.ref b), some (.ref (X.ad 0)), some (.ref (X.ad 462)), some (.ref (X.ad 476)), some (.int (l4)), none, none] [] := by
  unfold fL_law_1133
  refine g_aload_n (pc := 1133) (i := 1) C dL_law_1133 rfl rfl ?_
  refine g_aload_n (pc := 1134) (i := 0) C dL_law_1134 rfl rfl ?_
  refine g_iload (pc := 1135) C dL_law_1135 rfl ?_
  refine g_iconst (pc := 1137) (v := 1) C dL_law_1137 (by decide) ?_
  refine g_iadd (pc := 1138) C dL_law_1138 ?_
  refine g_sld (pc := 1139) C hr dL_law_1139 ?_
  refine g_aload_n (pc := 1140) (i := 0) C dL_law_1140 rfl rfl ?_
  refine g_iload (pc := 1141) C dL_law_1141 rfl ?_
  refine g_iconst (pc := 1143) (v := 2) C dL_law_1143 (by decide) ?_
  refine g_iadd (pc := 1144) C dL_law_1144 ?_
  refine g_sld (pc := 1145) C hr dL_law_1145 ?_
  refine g_callVi (pc := 1146) (As := [.int (xs (l4 + 1).toNatClampNeg), .int (xs (l4 + 2).toNatClampNeg)]) C (kX8_dropAt X σ (xs (l4 + 1).toNatClampNeg) (xs (l4 + 2).toNatClampNeg)) ok_dl rfl q_46_1 q_46_2 q_46_3 q_1_2 q_46_4 ⟨rfl, hdX8_dropAt⟩ ⟨Nat.le_of_ble_eq_true rfl, Nat.le_of_ble_eq_true rfl, rfl, rfl⟩ ⟨by show _ ≤ 601024; omega, by show _ ≤ 7293033; omega⟩ (Nat.le_of_ble_eq_true rfl) rfl rfl dL_law_1146 (fun r22 _ => ?_)
  refine g_pop (pc := 1149) C dL_law_1149 rfl ?_
  refine g_aload_n (pc := 1150) (i := 2) C dL_law_1150 rfl rfl ?_
  refine g_aload_n (pc := 1151) (i := 0) C dL_law_1151 rfl rfl ?_
  refine g_iload (pc := 1152) C dL_law_1152 rfl ?_
  refine g_iconst (pc := 1154) (v := 1) C dL_law_1154 (by decide) ?_
  refine g_iadd (pc := 1155) C dL_law_1155 ?_
  refine g_sld (pc := 1156) C hr dL_law_1156 ?_
  refine g_aload_n (pc := 1157) (i := 0) C dL_law_1157 rfl rfl ?_
  refine g_iload (pc := 1158) C dL_law_1158 rfl ?_
  refine g_iconst (pc := 1160) (v := 2) C dL_law_1160 (by decide) ?_
  refine g_iadd (pc := 1161) C dL_law_1161 ?_
  refine g_sld (pc := 1162) C hr dL_law_1162 ?_
  refine g_callVi (pc := 1163) (As := [.int (xs (l4 + 1).toNatClampNeg), .int (xs (l4 + 2).toNatClampNeg)]) C (kX9_dropAt X σ 462 (xs (l4 + 1).toNatClampNeg) (xs (l4 + 2).toNatClampNeg) ok_mo) (blk ok_mo 0 rfl) rfl q_46_9 q_46_10 q_46_11 q_1_5 q_46_12 ⟨rfl, hdX9_dropAt⟩ ⟨Nat.le_of_ble_eq_true rfl, Nat.le_of_ble_eq_true rfl, rfl, rfl⟩ ⟨by show _ ≤ 601024; omega, by show _ ≤ 7293033; omega⟩ (Nat.le_of_ble_eq_true rfl) rfl rfl dL_law_1163 (fun r23 _ => ?_)
  refine g_pop (pc := 1166) C dL_law_1166 rfl ?_
  refine g_goto (pc := 1167) (tgt := 1379) C dL_law_1167 rfl ?_
  refine g_keep [true, true, true, true, true, false, false] ?_
  refine g_widen (cs' := cs + 12) (ss' := ss + 72) (by omega) (by omega) ?_
  exact bL_law_1379 C hr hfl hcs hk23 r23.2 l4
def fL_law_1096 (L : Nat) (xs : Nat → Int32) (k23 : Sg → Int32 → Option Bool) (σ : Sg) (l4 : Int32) : Option Bool :=
  if ck (l4 + 1) L then
    if ck (l4 + 2) L then
      (fX8_paneAt σ (xs (l4 + 1).toNatClampNeg) (xs (l4 + 2).toNatClampNeg)).bind fun r24 =>
      if ck (l4 + 1) L then
        if ck (l4 + 2) L then
          (fX9_paneAt σ 462 (xs (l4 + 1).toNatClampNeg) (xs (l4 + 2).toNatClampNeg)).bind fun r25 =>
          (fL_law_1379 L xs k23 r25.2 l4)
        else none
      else none
    else none
  else none
theorem bL_law_1096 {X : Xc} {K : Kc} {L b cs ss : Nat} {xs : Nat → Int32} (C : MC X K cL_law 7 RL room_1) (hr : LH X K b L xs) (hfl : X.l.stackTraces = false) (hcs : cs + 12 ≤ 601024 ∧ ss + 72 ≤ 7293033) {k23 : Sg → Int32 → Option Bool} (hk23 : ∀ (σ : Sg) (l4 : Int32), GO X K 7 (lawQ K) (k23 σ l4) σ (cs + 12) (ss + 72) 23 [some (.ref b), some (.ref (X.ad 0)), some (.ref (X.ad 462)), some (.ref (X.ad 476)), some (.int (l4)), none, none] []) (σ : Sg) (l4 : Int32) : GO X K 7 (lawQ K) (fL_law_1096 L xs k23 σ l4) σ (cs + 0) (ss + 0) 1096 [some (.ref b), some (.ref (X.ad 0)), some (.ref (X.ad 462)), some (.ref (X.ad 476)), some (.int (l4)), none, none] [] := by
  unfold fL_law_1096
  refine g_aload_n (pc := 1096) (i := 1) C dL_law_1096 rfl rfl ?_
  refine g_aload_n (pc := 1097) (i := 0) C dL_law_1097 rfl rfl ?_
  refine g_iload (pc := 1098) C dL_law_1098 rfl ?_
  refine g_iconst (pc := 1100) (v := 1) C dL_law_1100 (by decide) ?_
  refine g_iadd (pc := 1101) C dL_law_1101 ?_
  refine g_sld (pc := 1102) C hr dL_law_1102 ?_
  refine g_aload_n (pc := 1103) (i := 0) C dL_law_1103 rfl rfl ?_
  refine g_iload (pc := 1104) C dL_law_1104 rfl ?_
  refine g_iconst (pc := 1106) (v := 2) C dL_law_1106 (by decide) ?_
  refine g_iadd (pc := 1107) C dL_law_1107 ?_
  refine g_sld (pc := 1108) C hr dL_law_1108 ?_
  refine g_callVi (pc := 1109) (As := [.int (xs (l4 + 1).toNatClampNeg), .int (xs (l4 + 2).toNatClampNeg)]) C (kX8_paneAt X σ (xs (l4 + 1).toNatClampNeg) (xs (l4 + 2).toNatClampNeg)) ok_dl rfl q_45_5 q_45_6 q_45_7 q_1_2 q_45_8 ⟨rfl, hdX8_paneAt⟩ ⟨Nat.le_of_ble_eq_true rfl, Nat.le_of_ble_eq_true rfl, rfl, rfl⟩ ⟨by show _ ≤ 601024; omega, by show _ ≤ 7293033; omega⟩ (Nat.le_of_ble_eq_true rfl) rfl rfl dL_law_1109 (fun r24 _ => ?_)
  refine g_pop (pc := 1112) C dL_law_1112 rfl ?_
  refine g_aload_n (pc := 1113) (i := 2) C dL_law_1113 rfl rfl ?_
  refine g_aload_n (pc := 1114) (i := 0) C dL_law_1114 rfl rfl ?_
  refine g_iload (pc := 1115) C dL_law_1115 rfl ?_
  refine g_iconst (pc := 1117) (v := 1) C dL_law_1117 (by decide) ?_
  refine g_iadd (pc := 1118) C dL_law_1118 ?_
  refine g_sld (pc := 1119) C hr dL_law_1119 ?_
  refine g_aload_n (pc := 1120) (i := 0) C dL_law_1120 rfl rfl ?_
  refine g_iload (pc := 1121) C dL_law_1121 rfl ?_
  refine g_iconst (pc := 1123) (v := 2) C dL_law_1123 (by decide) ?_
  refine g_iadd (pc := 1124) C dL_law_1124 ?_
  refine g_sld (pc := 1125) C hr dL_law_1125 ?_
  refine g_callVi (pc := 1126) (As := [.int (xs (l4 + 1).toNatClampNeg), .int (xs (l4 + 2).toNatClampNeg)]) C (kX9_paneAt X σ 462 (xs (l4 + 1).toNatClampNeg) (xs (l4 + 2).toNatClampNeg) ok_mo) (blk ok_mo 0 rfl) rfl q_45_21 q_45_22 q_45_23 q_1_5 q_46_0 ⟨rfl, hdX9_paneAt⟩ ⟨Nat.le_of_ble_eq_true rfl, Nat.le_of_ble_eq_true rfl, rfl, rfl⟩ ⟨by show _ ≤ 601024; omega, by show _ ≤ 7293033; omega⟩ (Nat.le_of_ble_eq_true rfl) rfl rfl dL_law_1126 (fun r25 _ => ?_)
  refine g_pop (pc := 1129) C dL_law_1129 rfl ?_
  refine g_goto (pc := 1130) (tgt := 1379) C dL_law_1130 rfl ?_
  refine g_keep [true, true, true, true, true, false, false] ?_
  refine g_widen (cs' := cs + 12) (ss' := ss + 72) (by omega) (by omega) ?_
  exact bL_law_1379 C hr hfl hcs hk23 r25.2 l4
def fL_law_1059 (L : Nat) (xs : Nat → Int32) (k23 : Sg → Int32 → Option Bool) (σ : Sg) (l4 : Int32) : Option Bool :=
  if ck (l4 + 1) L then
    if ck (l4 + 2) L then
      (fX8_kindAt σ (xs (l4 + 1).toNatClampNeg) (xs (l4 + 2).toNatClampNeg)).bind fun r26 =>
      if ck (l4 + 1) L then
        if ck (l4 + 2) L then
          (fX9_kindAt σ 462 (xs (l4 + 1).toNatClampNeg) (xs (l4 + 2).toNatClampNeg)).bind fun r27 =>
          (fL_law_1379 L xs k23 r27.2 l4)
        else none
      else none
    else none
  else none
theorem bL_law_1059 {X : Xc} {K : Kc} {L b cs ss : Nat} {xs : Nat → Int32} (C : MC X K cL_law 7 RL room_1) (hr : LH X K b L xs) (hfl : X.l.stackTraces = false) (hcs : cs + 12 ≤ 601024 ∧ ss + 72 ≤ 7293033) {k23 : Sg → Int32 → Option Bool} (hk23 : ∀ (σ : Sg) (l4 : Int32), GO X K 7 (lawQ K) (k23 σ l4) σ (cs + 12) (ss + 72) 23 [some (.ref b), some (.ref (X.ad 0)), some (.ref (X.ad 462)), some (.ref (X.ad 476)), some (.int (l4)), none, none] []) (σ : Sg) (l4 : Int32) : GO X K 7 (lawQ K) (fL_law_1059 L xs k23 σ l4) σ (cs + 0) (ss + 0) 1059 [some (.ref b), some (.ref (X.ad 0)), some (.ref (X.ad 462)), some (.ref (X.ad 476)), some (.int (l4)), none, none] [] := by
  unfold fL_law_1059
  refine g_aload_n (pc := 1059) (i := 1) C dL_law_1059 rfl rfl ?_
  refine g_aload_n (pc := 1060) (i := 0) C dL_law_1060 rfl rfl ?_
  refine g_iload (pc := 1061) C dL_law_1061 rfl ?_
  refine g_iconst (pc := 1063) (v := 1) C dL_law_1063 (by decide) ?_
  refine g_iadd (pc := 1064) C dL_law_1064 ?_
  refine g_sld (pc := 1065) C hr dL_law_1065 ?_
  refine g_aload_n (pc := 1066) (i := 0) C dL_law_1066 rfl rfl ?_
  refine g_iload (pc := 1067) C dL_law_1067 rfl ?_
  refine g_iconst (pc := 1069) (v := 2) C dL_law_1069 (by decide) ?_
  refine g_iadd (pc := 1070) C dL_law_1070 ?_
  refine g_sld (pc := 1071) C hr dL_law_1071 ?_
  refine g_callVi (pc := 1072) (As := [.int (xs (l4 + 1).toNatClampNeg), .int (xs (l4 + 2).toNatClampNeg)]) C (kX8_kindAt X σ (xs (l4 + 1).toNatClampNeg) (xs (l4 + 2).toNatClampNeg)) ok_dl rfl q_43_9 q_43_10 q_43_11 q_1_2 q_43_12 ⟨rfl, hdX8_kindAt⟩ ⟨Nat.le_of_ble_eq_true rfl, Nat.le_of_ble_eq_true rfl, rfl, rfl⟩ ⟨by show _ ≤ 601024; omega, by show _ ≤ 7293033; omega⟩ (Nat.le_of_ble_eq_true rfl) rfl rfl dL_law_1072 (fun r26 _ => ?_)
  refine g_pop (pc := 1075) C dL_law_1075 rfl ?_
  refine g_aload_n (pc := 1076) (i := 2) C dL_law_1076 rfl rfl ?_
  refine g_aload_n (pc := 1077) (i := 0) C dL_law_1077 rfl rfl ?_
  refine g_iload (pc := 1078) C dL_law_1078 rfl ?_
  refine g_iconst (pc := 1080) (v := 1) C dL_law_1080 (by decide) ?_
  refine g_iadd (pc := 1081) C dL_law_1081 ?_
  refine g_sld (pc := 1082) C hr dL_law_1082 ?_
  refine g_aload_n (pc := 1083) (i := 0) C dL_law_1083 rfl rfl ?_
  refine g_iload (pc := 1084) C dL_law_1084 rfl ?_
  refine g_iconst (pc := 1086) (v := 2) C dL_law_1086 (by decide) ?_
  refine g_iadd (pc := 1087) C dL_law_1087 ?_
  refine g_sld (pc := 1088) C hr dL_law_1088 ?_
  refine g_callVi (pc := 1089) (As := [.int (xs (l4 + 1).toNatClampNeg), .int (xs (l4 + 2).toNatClampNeg)]) C (kX9_kindAt X σ 462 (xs (l4 + 1).toNatClampNeg) (xs (l4 + 2).toNatClampNeg) ok_mo) (blk ok_mo 0 rfl) rfl q_44_9 q_44_10 q_44_11 q_1_5 q_44_12 ⟨rfl, hdX9_kindAt⟩ ⟨Nat.le_of_ble_eq_true rfl, Nat.le_of_ble_eq_true rfl, rfl, rfl⟩ ⟨by show _ ≤ 601024; omega, by show _ ≤ 7293033; omega⟩ (Nat.le_of_ble_eq_true rfl) rfl rfl dL_law_1089 (fun r27 _ => ?_)
  refine g_pop (pc := 1092) C dL_law_1092 rfl ?_
  refine g_goto (pc := 1093) (tgt := 1379) C dL_law_1093 rfl ?_
  refine g_keep [true, true, true, true, true, false, false] ?_
  refine g_widen (cs' := cs + 12) (ss' := ss + 72) (by omega) (by omega) ?_
  exact bL_law_1379 C hr hfl hcs hk23 r27.2 l4
def fL_law_1034 (L : Nat) (xs : Nat → Int32) (k23 : Sg → Int32 → Option Bool) (σ : Sg) (l4 : Int32) : Option Bool :=
  if ck (l4 + 1) L then
    (fX8_focus σ (xs (l4 + 1).toNatClampNeg)).bind fun r28 =>
    if ck (l4 + 1) L then
      (fX9_focus σ 462 (xs (l4 + 1).toNatClampNeg)).bind fun r29 =>
      (fL_law_1379 L xs k23 r29.2 l4)
    else none
  else none
theorem bL_law_1034 {X : Xc} {K : Kc} {L b cs ss : Nat} {xs : Nat → Int32} (C : MC X K cL_law 7 RL room_1) (hr : LH X K b L xs) (hfl : X.l.stackTraces = false) (hcs : cs + 12 ≤ 601024 ∧ ss + 72 ≤ 7293033) {k23 : Sg → Int32 → Option Bool} (hk23 : ∀ (σ : Sg) (l4 : Int32), GO X K 7 (lawQ K) (k23 σ l4) σ (cs + 12) (ss + 72) 23 [some (.ref b), some (.ref (X.ad 0)), some (.ref (X.ad 462)), some (.ref (X.ad 476)), some (.int (l4)), none, none] []) (σ : Sg) (l4 : Int32) : GO X K 7 (lawQ K) (fL_law_1034 L xs k23 σ l4) σ (cs + 0) (ss + 0) 1034 [some (.ref b), some (.ref (X.ad 0)), some (.ref (X.ad 462)), some (.ref (X.ad 476)), some (.int (l4)), none, none] [] := by
  unfold fL_law_1034
  refine g_aload_n (pc := 1034) (i := 1) C dL_law_1034 rfl rfl ?_
  refine g_aload_n (pc := 1035) (i := 0) C dL_law_1035 rfl rfl ?_
  refine g_iload (pc := 1036) C dL_law_1036 rfl ?_
  refine g_iconst (pc := 1038) (v := 1) C dL_law_1038 (by decide) ?_
  refine g_iadd (pc := 1039) C dL_law_1039 ?_
  refine g_sld (pc := 1040) C hr dL_law_1040 ?_
  refine g_callVi (pc := 1041) (As := [.int (xs (l4 + 1).toNatClampNeg)]) C (kX8_focus X σ (xs (l4 + 1).toNatClampNeg)) ok_dl rfl q_43_1 q_43_2 q_43_3 q_1_2 q_43_4 ⟨rfl, hdX8_focus⟩ ⟨Nat.le_of_ble_eq_true rfl, Nat.le_of_ble_eq_true rfl, rfl, rfl⟩ ⟨by show _ ≤ 601024; omega, by show _ ≤ 7293033; omega⟩ (Nat.le_of_ble_eq_true rfl) rfl rfl dL_law_1041 (fun r28 _ => ?_)
  refine g_pop (pc := 1044) C dL_law_1044 rfl ?_
  refine g_aload_n (pc := 1045) (i := 2) C dL_law_1045 rfl rfl ?_
  refine g_aload_n (pc := 1046) (i := 0) C dL_law_1046 rfl rfl ?_
  refine g_iload (pc := 1047) C dL_law_1047 rfl ?_
  refine g_iconst (pc := 1049) (v := 1) C dL_law_1049 (by decide) ?_
  refine g_iadd (pc := 1050) C dL_law_1050 ?_
  refine g_sld (pc := 1051) C hr dL_law_1051 ?_
  refine g_callVi (pc := 1052) (As := [.int (xs (l4 + 1).toNatClampNeg)]) C (kX9_focus X σ 462 (xs (l4 + 1).toNatClampNeg) ok_mo) (blk ok_mo 0 rfl) rfl q_43_5 q_43_6 q_43_7 q_1_5 q_43_8 ⟨rfl, hdX9_focus⟩ ⟨Nat.le_of_ble_eq_true rfl, Nat.le_of_ble_eq_true rfl, rfl, rfl⟩ ⟨by show _ ≤ 601024; omega, by show _ ≤ 7293033; omega⟩ (Nat.le_of_ble_eq_true rfl) rfl rfl dL_law_1052 (fun r29 _ => ?_)
  refine g_pop (pc := 1055) C dL_law_1055 rfl ?_
  refine g_goto (pc := 1056) (tgt := 1379) C dL_law_1056 rfl ?_
  refine g_keep [true, true, true, true, true, false, false] ?_
  refine g_widen (cs' := cs + 12) (ss' := ss + 72) (by omega) (by omega) ?_
  exact bL_law_1379 C hr hfl hcs hk23 r29.2 l4
def fL_law_1006 (L : Nat) (xs : Nat → Int32) (k23 : Sg → Int32 → Option Bool) (σ : Sg) (l4 : Int32) : Option Bool :=
  if ck (l4 + 1) L then
    (fL_even σ (xs (l4 + 1).toNatClampNeg) 476 1).bind fun r30 =>
    if ck (l4 + 1) L then
      (fX9_even r30.2 462 (xs (l4 + 1).toNatClampNeg)).bind fun r31 =>
      (fL_law_1379 L xs k23 r31.2 l4)
    else none
  else none
theorem bL_law_1006 {X : Xc} {K : Kc} {L b cs ss : Nat} {xs : Nat → Int32} (C : MC X K cL_law 7 RL room_1) (hr : LH X K b L xs) (hfl : X.l.stackTraces = false) (hcs : cs + 12 ≤ 601024 ∧ ss + 72 ≤ 7293033) {k23 : Sg → Int32 → Option Bool} (hk23 : ∀ (σ : Sg) (l4 : Int32), GO X K 7 (lawQ K) (k23 σ l4) σ (cs + 12) (ss + 72) 23 [some (.ref b), some (.ref (X.ad 0)), some (.ref (X.ad 462)), some (.ref (X.ad 476)), some (.int (l4)), none, none] []) (σ : Sg) (l4 : Int32) : GO X K 7 (lawQ K) (fL_law_1006 L xs k23 σ l4) σ (cs + 0) (ss + 0) 1006 [some (.ref b), some (.ref (X.ad 0)), some (.ref (X.ad 462)), some (.ref (X.ad 476)), some (.int (l4)), none, none] [] := by
  unfold fL_law_1006
  refine g_aload_n (pc := 1006) (i := 1) C dL_law_1006 rfl rfl ?_
  refine g_aload_n (pc := 1007) (i := 0) C dL_law_1007 rfl rfl ?_
  refine g_iload (pc := 1008) C dL_law_1008 rfl ?_
  refine g_iconst (pc := 1010) (v := 1) C dL_law_1010 (by decide) ?_
  refine g_iadd (pc := 1011) C dL_law_1011 ?_
  refine g_sld (pc := 1012) C hr dL_law_1012 ?_
  refine g_aload_n (pc := 1013) (i := 3) C dL_law_1013 rfl rfl ?_
  refine g_callHi (pc := 1014) (As := [.ref (X.ad 0), .int (xs (l4 + 1).toNatClampNeg), .ref (X.ad 476)]) C (kL_even X σ (xs (l4 + 1).toNatClampNeg) 476 1 ok_out hfl) q_42_14 q_42_15 q_6_18 q_42_16 hdL_even ⟨Nat.le_of_ble_eq_true rfl, Nat.le_of_ble_eq_true rfl, rfl, rfl, by show _ ≤ 601024; omega, by show _ ≤ 7293033; omega⟩ (Nat.le_of_ble_eq_true rfl) rfl rfl dL_law_1014 (fun r30 _ => ?_)
  refine g_istore (pc := 1017) C dL_law_1017 (Nat.le_of_ble_eq_true rfl) rfl ?_
  refine g_aload_n (pc := 1019) (i := 2) C dL_law_1019 rfl rfl ?_
  refine g_aload_n (pc := 1020) (i := 0) C dL_law_1020 rfl rfl ?_
  refine g_iload (pc := 1021) C dL_law_1021 rfl ?_
  refine g_iconst (pc := 1023) (v := 1) C dL_law_1023 (by decide) ?_
  refine g_iadd (pc := 1024) C dL_law_1024 ?_
  refine g_sld (pc := 1025) C hr dL_law_1025 ?_
  refine g_callVi (pc := 1026) (As := [.int (xs (l4 + 1).toNatClampNeg)]) C (kX9_even X r30.2 462 (xs (l4 + 1).toNatClampNeg) ok_mo) (blk ok_mo 0 rfl) rfl q_42_21 q_42_22 q_42_23 q_1_5 q_43_0 ⟨rfl, hdX9_even⟩ ⟨Nat.le_of_ble_eq_true rfl, Nat.le_of_ble_eq_true rfl, rfl, rfl⟩ ⟨by show _ ≤ 601024; omega, by show _ ≤ 7293033; omega⟩ (Nat.le_of_ble_eq_true rfl) rfl rfl dL_law_1026 (fun r31 _ => ?_)
  refine g_istore (pc := 1029) C dL_law_1029 (Nat.le_of_ble_eq_true rfl) rfl ?_
  refine g_goto (pc := 1031) (tgt := 1379) C dL_law_1031 rfl ?_
  refine g_keep [true, true, true, true, true, false, false] ?_
  refine g_widen (cs' := cs + 12) (ss' := ss + 72) (by omega) (by omega) ?_
  exact bL_law_1379 C hr hfl hcs hk23 r31.2 l4
def fL_law_954 (L : Nat) (xs : Nat → Int32) (k23 : Sg → Int32 → Option Bool) (σ : Sg) (l4 : Int32) : Option Bool :=
  if ck (l4 + 1) L then
    if ck (l4 + 2) L then
      if ck (l4 + 3) L then
        (fL_drag σ (xs (l4 + 1).toNatClampNeg) (xs (l4 + 2).toNatClampNeg) (xs (l4 + 3).toNatClampNeg) 476 1).bind fun r32 =>
        if ck (l4 + 1) L then
          if ck (l4 + 2) L then
            if ck (l4 + 3) L then
              (fX9_drag r32.2 462 (xs (l4 + 1).toNatClampNeg) (xs (l4 + 2).toNatClampNeg) (xs (l4 + 3).toNatClampNeg)).bind fun r33 =>
              (fL_law_1379 L xs k23 r33.2 l4)
            else none
          else none
        else none
      else none
    else none
  else none
theorem bL_law_954 {X : Xc} {K : Kc} {L b cs ss : Nat} {xs : Nat → Int32} (C : MC X K cL_law 7 RL room_1) (hr : LH X K b L xs) (hfl : X.l.stackTraces = false) (hcs : cs + 12 ≤ 601024 ∧ ss + 72 ≤ 7293033) {k23 : Sg → Int32 → Option Bool} (hk23 : ∀ (σ : Sg) (l4 : Int32), GO X K 7 (lawQ K) (k23 σ l4) σ (cs + 12) (ss + 72) 23 [some (.ref b), some (.ref (X.ad 0)), some (.ref (X.ad 462)), some (.ref (X.ad 476)), some (.int (l4)), none, none] []) (σ : Sg) (l4 : Int32) : GO X K 7 (lawQ K) (fL_law_954 L xs k23 σ l4) σ (cs + 0) (ss + 0) 954 [some (.ref b), some (.ref (X.ad 0)), some (.ref (X.ad 462)), some (.ref (X.ad 476)), some (.int (l4)), none, none] [] := by
  unfold fL_law_954
  refine g_aload_n (pc := 954) (i := 1) C dL_law_954 rfl rfl ?_
  refine g_aload_n (pc := 955) (i := 0) C dL_law_955 rfl rfl ?_
  refine g_iload (pc := 956) C dL_law_956 rfl ?_
  refine g_iconst (pc := 958) (v := 1) C dL_law_958 (by decide) ?_
  refine g_iadd (pc := 959) C dL_law_959 ?_
  refine g_sld (pc := 960) C hr dL_law_960 ?_
  refine g_aload_n (pc := 961) (i := 0) C dL_law_961 rfl rfl ?_
  refine g_iload (pc := 962) C dL_law_962 rfl ?_
  refine g_iconst (pc := 964) (v := 2) C dL_law_964 (by decide) ?_
  refine g_iadd (pc := 965) C dL_law_965 ?_
  refine g_sld (pc := 966) C hr dL_law_966 ?_
  refine g_aload_n (pc := 967) (i := 0) C dL_law_967 rfl rfl ?_
  refine g_iload (pc := 968) C dL_law_968 rfl ?_
  refine g_iconst (pc := 970) (v := 3) C dL_law_970 (by decide) ?_
  refine g_iadd (pc := 971) C dL_law_971 ?_
  refine g_sld (pc := 972) C hr dL_law_972 ?_
  refine g_aload_n (pc := 973) (i := 3) C dL_law_973 rfl rfl ?_
  refine g_callHi (pc := 974) (As := [.ref (X.ad 0), .int (xs (l4 + 1).toNatClampNeg), .int (xs (l4 + 2).toNatClampNeg), .int (xs (l4 + 3).toNatClampNeg), .ref (X.ad 476)]) C (kL_drag X σ (xs (l4 + 1).toNatClampNeg) (xs (l4 + 2).toNatClampNeg) (xs (l4 + 3).toNatClampNeg) 476 1 ok_out hfl) q_40_2 q_40_3 q_6_18 q_40_4 hdL_drag ⟨Nat.le_of_ble_eq_true rfl, Nat.le_of_ble_eq_true rfl, rfl, rfl, by show _ ≤ 601024; omega, by show _ ≤ 7293033; omega⟩ (Nat.le_of_ble_eq_true rfl) rfl rfl dL_law_974 (fun r32 _ => ?_)
  refine g_istore (pc := 977) C dL_law_977 (Nat.le_of_ble_eq_true rfl) rfl ?_
  refine g_aload_n (pc := 979) (i := 2) C dL_law_979 rfl rfl ?_
  refine g_aload_n (pc := 980) (i := 0) C dL_law_980 rfl rfl ?_
  refine g_iload (pc := 981) C dL_law_981 rfl ?_
  refine g_iconst (pc := 983) (v := 1) C dL_law_983 (by decide) ?_
  refine g_iadd (pc := 984) C dL_law_984 ?_
  refine g_sld (pc := 985) C hr dL_law_985 ?_
  refine g_aload_n (pc := 986) (i := 0) C dL_law_986 rfl rfl ?_
  refine g_iload (pc := 987) C dL_law_987 rfl ?_
  refine g_iconst (pc := 989) (v := 2) C dL_law_989 (by decide) ?_
  refine g_iadd (pc := 990) C dL_law_990 ?_
  refine g_sld (pc := 991) C hr dL_law_991 ?_
  refine g_aload_n (pc := 992) (i := 0) C dL_law_992 rfl rfl ?_
  refine g_iload (pc := 993) C dL_law_993 rfl ?_
  refine g_iconst (pc := 995) (v := 3) C dL_law_995 (by decide) ?_
  refine g_iadd (pc := 996) C dL_law_996 ?_
  refine g_sld (pc := 997) C hr dL_law_997 ?_
  refine g_callVi (pc := 998) (As := [.int (xs (l4 + 1).toNatClampNeg), .int (xs (l4 + 2).toNatClampNeg), .int (xs (l4 + 3).toNatClampNeg)]) C (kX9_drag X r32.2 462 (xs (l4 + 1).toNatClampNeg) (xs (l4 + 2).toNatClampNeg) (xs (l4 + 3).toNatClampNeg) ok_mo) (blk ok_mo 0 rfl) rfl q_41_22 q_41_23 q_42_0 q_1_5 q_42_1 ⟨rfl, hdX9_drag⟩ ⟨Nat.le_of_ble_eq_true rfl, Nat.le_of_ble_eq_true rfl, rfl, rfl⟩ ⟨by show _ ≤ 601024; omega, by show _ ≤ 7293033; omega⟩ (Nat.le_of_ble_eq_true rfl) rfl rfl dL_law_998 (fun r33 _ => ?_)
  refine g_istore (pc := 1001) C dL_law_1001 (Nat.le_of_ble_eq_true rfl) rfl ?_
  refine g_goto (pc := 1003) (tgt := 1379) C dL_law_1003 rfl ?_
  refine g_keep [true, true, true, true, true, false, false] ?_
  refine g_widen (cs' := cs + 12) (ss' := ss + 72) (by omega) (by omega) ?_
  exact bL_law_1379 C hr hfl hcs hk23 r33.2 l4
def fL_law_914 (L : Nat) (xs : Nat → Int32) (k23 : Sg → Int32 → Option Bool) (σ : Sg) (l4 : Int32) : Option Bool :=
  if ck (l4 + 1) L then
    if ck (l4 + 2) L then
      (fL_moveTab σ (xs (l4 + 1).toNatClampNeg) (xs (l4 + 2).toNatClampNeg) 476 1).bind fun r34 =>
      if ck (l4 + 1) L then
        if ck (l4 + 2) L then
          (fX9_moveTab r34.2 462 (xs (l4 + 1).toNatClampNeg) (xs (l4 + 2).toNatClampNeg)).bind fun r35 =>
          (fL_law_1379 L xs k23 r35.2 l4)
        else none
      else none
    else none
  else none
theorem bL_law_914 {X : Xc} {K : Kc} {L b cs ss : Nat} {xs : Nat → Int32} (C : MC X K cL_law 7 RL room_1) (hr : LH X K b L xs) (hfl : X.l.stackTraces = false) (hcs : cs + 12 ≤ 601024 ∧ ss + 72 ≤ 7293033) {k23 : Sg → Int32 → Option Bool} (hk23 : ∀ (σ : Sg) (l4 : Int32), GO X K 7 (lawQ K) (k23 σ l4) σ (cs + 12) (ss + 72) 23 [some (.ref b), some (.ref (X.ad 0)), some (.ref (X.ad 462)), some (.ref (X.ad 476)), some (.int (l4)), none, none] []) (σ : Sg) (l4 : Int32) : GO X K 7 (lawQ K) (fL_law_914 L xs k23 σ l4) σ (cs + 0) (ss + 0) 914 [some (.ref b), some (.ref (X.ad 0)), some (.ref (X.ad 462)), some (.ref (X.ad 476)), some (.int (l4)), none, none] [] := by
  unfold fL_law_914
  refine g_aload_n (pc := 914) (i := 1) C dL_law_914 rfl rfl ?_
  refine g_aload_n (pc := 915) (i := 0) C dL_law_915 rfl rfl ?_
  refine g_iload (pc := 916) C dL_law_916 rfl ?_
  refine g_iconst (pc := 918) (v := 1) C dL_law_918 (by decide) ?_
  refine g_iadd (pc := 919) C dL_law_919 ?_
  refine g_sld (pc := 920) C hr dL_law_920 ?_
  refine g_aload_n (pc := 921) (i := 0) C dL_law_921 rfl rfl ?_
  refine g_iload (pc := 922) C dL_law_922 rfl ?_
  refine g_iconst (pc := 924) (v := 2) C dL_law_924 (by decide) ?_
  refine g_iadd (pc := 925) C dL_law_925 ?_
  refine g_sld (pc := 926) C hr dL_law_926 ?_
  refine g_aload_n (pc := 927) (i := 3) C dL_law_927 rfl rfl ?_
  refine g_callHi (pc := 928) (As := [.ref (X.ad 0), .int (xs (l4 + 1).toNatClampNeg), .int (xs (l4 + 2).toNatClampNeg), .ref (X.ad 476)]) C (kL_moveTab X σ (xs (l4 + 1).toNatClampNeg) (xs (l4 + 2).toNatClampNeg) 476 1 ok_out hfl) q_39_14 q_39_15 q_6_18 q_39_16 hdL_moveTab ⟨Nat.le_of_ble_eq_true rfl, Nat.le_of_ble_eq_true rfl, rfl, rfl, by show _ ≤ 601024; omega, by show _ ≤ 7293033; omega⟩ (Nat.le_of_ble_eq_true rfl) rfl rfl dL_law_928 (fun r34 _ => ?_)
  refine g_istore (pc := 931) C dL_law_931 (Nat.le_of_ble_eq_true rfl) rfl ?_
  refine g_aload_n (pc := 933) (i := 2) C dL_law_933 rfl rfl ?_
  refine g_aload_n (pc := 934) (i := 0) C dL_law_934 rfl rfl ?_
  refine g_iload (pc := 935) C dL_law_935 rfl ?_
  refine g_iconst (pc := 937) (v := 1) C dL_law_937 (by decide) ?_
  refine g_iadd (pc := 938) C dL_law_938 ?_
  refine g_sld (pc := 939) C hr dL_law_939 ?_
  refine g_aload_n (pc := 940) (i := 0) C dL_law_940 rfl rfl ?_
  refine g_iload (pc := 941) C dL_law_941 rfl ?_
  refine g_iconst (pc := 943) (v := 2) C dL_law_943 (by decide) ?_
  refine g_iadd (pc := 944) C dL_law_944 ?_
  refine g_sld (pc := 945) C hr dL_law_945 ?_
  refine g_callVi (pc := 946) (As := [.int (xs (l4 + 1).toNatClampNeg), .int (xs (l4 + 2).toNatClampNeg)]) C (kX9_moveTab X r34.2 462 (xs (l4 + 1).toNatClampNeg) (xs (l4 + 2).toNatClampNeg) ok_mo) (blk ok_mo 0 rfl) rfl q_39_22 q_39_23 q_40_0 q_1_5 q_40_1 ⟨rfl, hdX9_moveTab⟩ ⟨Nat.le_of_ble_eq_true rfl, Nat.le_of_ble_eq_true rfl, rfl, rfl⟩ ⟨by show _ ≤ 601024; omega, by show _ ≤ 7293033; omega⟩ (Nat.le_of_ble_eq_true rfl) rfl rfl dL_law_946 (fun r35 _ => ?_)
  refine g_istore (pc := 949) C dL_law_949 (Nat.le_of_ble_eq_true rfl) rfl ?_
  refine g_goto (pc := 951) (tgt := 1379) C dL_law_951 rfl ?_
  refine g_keep [true, true, true, true, true, false, false] ?_
  refine g_widen (cs' := cs + 12) (ss' := ss + 72) (by omega) (by omega) ?_
  exact bL_law_1379 C hr hfl hcs hk23 r35.2 l4
def fL_law_886 (L : Nat) (xs : Nat → Int32) (k23 : Sg → Int32 → Option Bool) (σ : Sg) (l4 : Int32) : Option Bool :=
  if ck (l4 + 1) L then
    (fL_activate σ (xs (l4 + 1).toNatClampNeg) 476 1).bind fun r36 =>
    if ck (l4 + 1) L then
      (fX9_activate r36.2 462 (xs (l4 + 1).toNatClampNeg)).bind fun r37 =>
      (fL_law_1379 L xs k23 r37.2 l4)
    else none
  else none
theorem bL_law_886 {X : Xc} {K : Kc} {L b cs ss : Nat} {xs : Nat → Int32} (C : MC X K cL_law 7 RL room_1) (hr : LH X K b L xs) (hfl : X.l.stackTraces = false) (hcs : cs + 12 ≤ 601024 ∧ ss + 72 ≤ 7293033) {k23 : Sg → Int32 → Option Bool} (hk23 : ∀ (σ : Sg) (l4 : Int32), GO X K 7 (lawQ K) (k23 σ l4) σ (cs + 12) (ss + 72) 23 [some (.ref b), some (.ref (X.ad 0)), some (.ref (X.ad 462)), some (.ref (X.ad 476)), some (.int (l4)), none, none] []) (σ : Sg) (l4 : Int32) : GO X K 7 (lawQ K) (fL_law_886 L xs k23 σ l4) σ (cs + 0) (ss + 0) 886 [some (.ref b), some (.ref (X.ad 0)), some (.ref (X.ad 462)), some (.ref (X.ad 476)), some (.int (l4)), none, none] [] := by
  unfold fL_law_886
  refine g_aload_n (pc := 886) (i := 1) C dL_law_886 rfl rfl ?_
  refine g_aload_n (pc := 887) (i := 0) C dL_law_887 rfl rfl ?_
  refine g_iload (pc := 888) C dL_law_888 rfl ?_
  refine g_iconst (pc := 890) (v := 1) C dL_law_890 (by decide) ?_
  refine g_iadd (pc := 891) C dL_law_891 ?_
  refine g_sld (pc := 892) C hr dL_law_892 ?_
  refine g_aload_n (pc := 893) (i := 3) C dL_law_893 rfl rfl ?_
  refine g_callHi (pc := 894) (As := [.ref (X.ad 0), .int (xs (l4 + 1).toNatClampNeg), .ref (X.ad 476)]) C (kL_activate X σ (xs (l4 + 1).toNatClampNeg) 476 1 ok_out hfl) q_38_19 q_38_20 q_6_18 q_38_21 hdL_activate ⟨Nat.le_of_ble_eq_true rfl, Nat.le_of_ble_eq_true rfl, rfl, rfl, by show _ ≤ 601024; omega, by show _ ≤ 7293033; omega⟩ (Nat.le_of_ble_eq_true rfl) rfl rfl dL_law_894 (fun r36 _ => ?_)
  refine g_istore (pc := 897) C dL_law_897 (Nat.le_of_ble_eq_true rfl) rfl ?_
  refine g_aload_n (pc := 899) (i := 2) C dL_law_899 rfl rfl ?_
  refine g_aload_n (pc := 900) (i := 0) C dL_law_900 rfl rfl ?_
  refine g_iload (pc := 901) C dL_law_901 rfl ?_
  refine g_iconst (pc := 903) (v := 1) C dL_law_903 (by decide) ?_
  refine g_iadd (pc := 904) C dL_law_904 ?_
  refine g_sld (pc := 905) C hr dL_law_905 ?_
  refine g_callVi (pc := 906) (As := [.int (xs (l4 + 1).toNatClampNeg)]) C (kX9_activate X r36.2 462 (xs (l4 + 1).toNatClampNeg) ok_mo) (blk ok_mo 0 rfl) rfl q_39_6 q_39_7 q_39_8 q_1_5 q_39_9 ⟨rfl, hdX9_activate⟩ ⟨Nat.le_of_ble_eq_true rfl, Nat.le_of_ble_eq_true rfl, rfl, rfl⟩ ⟨by show _ ≤ 601024; omega, by show _ ≤ 7293033; omega⟩ (Nat.le_of_ble_eq_true rfl) rfl rfl dL_law_906 (fun r37 _ => ?_)
  refine g_istore (pc := 909) C dL_law_909 (Nat.le_of_ble_eq_true rfl) rfl ?_
  refine g_goto (pc := 911) (tgt := 1379) C dL_law_911 rfl ?_
  refine g_keep [true, true, true, true, true, false, false] ?_
  refine g_widen (cs' := cs + 12) (ss' := ss + 72) (by omega) (by omega) ?_
  exact bL_law_1379 C hr hfl hcs hk23 r37.2 l4
def fL_law_878 (L : Nat) (xs : Nat → Int32) (k23 : Sg → Int32 → Option Bool) (σ : Sg) (l4 : Int32) (s1 : Int32) (s2 : Int32) : Option Bool :=
  (fX9_show σ 462 s1 s2).bind fun r39 =>
  (fL_law_1379 L xs k23 r39.2 l4)
theorem bL_law_878 {X : Xc} {K : Kc} {L b cs ss : Nat} {xs : Nat → Int32} (C : MC X K cL_law 7 RL room_1) (hr : LH X K b L xs) (hfl : X.l.stackTraces = false) (hcs : cs + 12 ≤ 601024 ∧ ss + 72 ≤ 7293033) {k23 : Sg → Int32 → Option Bool} (hk23 : ∀ (σ : Sg) (l4 : Int32), GO X K 7 (lawQ K) (k23 σ l4) σ (cs + 12) (ss + 72) 23 [some (.ref b), some (.ref (X.ad 0)), some (.ref (X.ad 462)), some (.ref (X.ad 476)), some (.int (l4)), none, none] []) (σ : Sg) (l4 : Int32) (s1 : Int32) (s2 : Int32) : GO X K 7 (lawQ K) (fL_law_878 L xs k23 σ l4 s1 s2) σ (cs + 12) (ss + 72) 878 [some (.ref b), some (.ref (X.ad 0)), some (.ref (X.ad 462)), some (.ref (X.ad 476)), some (.int (l4)), none, none] [.int (s2), .int (s1), .ref (X.ad 462)] := by
  unfold fL_law_878
  refine g_callVi (pc := 878) (As := [.int (s1), .int (s2)]) C (kX9_show X σ 462 s1 s2 ok_mo) (blk ok_mo 0 rfl) rfl q_38_15 q_38_16 q_38_17 q_1_5 q_38_18 ⟨rfl, hdX9_show⟩ ⟨Nat.le_of_ble_eq_true rfl, Nat.le_of_ble_eq_true rfl, rfl, rfl⟩ ⟨by show _ ≤ 601024; omega, by show _ ≤ 7293033; omega⟩ (Nat.le_of_ble_eq_true rfl) rfl rfl dL_law_878 (fun r39 _ => ?_)
  refine g_istore (pc := 881) C dL_law_881 (Nat.le_of_ble_eq_true rfl) rfl ?_
  refine g_goto (pc := 883) (tgt := 1379) C dL_law_883 rfl ?_
  refine g_keep [true, true, true, true, true, false, false] ?_
  refine g_widen (cs' := cs + 12) (ss' := ss + 72) (by omega) (by omega) ?_
  exact bL_law_1379 C hr hfl hcs hk23 r39.2 l4
def fL_law_851 (L : Nat) (xs : Nat → Int32) (k23 : Sg → Int32 → Option Bool) (σ : Sg) (l4 : Int32) (s1 : Int32) (s2 : Int32) : Option Bool :=
  (fL_show σ s1 s2 476 1).bind fun r38 =>
  if ck (l4 + 1) L then
    if ck (l4 + 2) L then
      if (xs (l4 + 2).toNatClampNeg) = 0 then
        (fL_law_878 L xs k23 r38.2 l4 (xs (l4 + 1).toNatClampNeg) 0)
      else
        (fL_law_878 L xs k23 r38.2 l4 (xs (l4 + 1).toNatClampNeg) 1)
    else none
  else none
theorem bL_law_851 {X : Xc} {K : Kc} {L b cs ss : Nat} {xs : Nat → Int32} (C : MC X K cL_law 7 RL room_1) (hr : LH X K b L xs) (hfl : X.l.stackTraces = false) (hcs : cs + 12 ≤ 601024 ∧ ss + 72 ≤ 7293033) {k23 : Sg → Int32 → Option Bool} (hk23 : ∀ (σ : Sg) (l4 : Int32), GO X K 7 (lawQ K) (k23 σ l4) σ (cs + 12) (ss + 72) 23 [some (.ref b), some (.ref (X.ad 0)), some (.ref (X.ad 462)), some (.ref (X.ad 476)), some (.int (l4)), none, none] []) (σ : Sg) (l4 : Int32) (s1 : Int32) (s2 : Int32) : GO X K 7 (lawQ K) (fL_law_851 L xs k23 σ l4 s1 s2) σ (cs + 0) (ss + 0) 851 [some (.ref b), some (.ref (X.ad 0)), some (.ref (X.ad 462)), some (.ref (X.ad 476)), some (.int (l4)), none, none] [.int (s2), .int (s1), .ref (X.ad 0)] := by
  unfold fL_law_851
  refine g_aload_n (pc := 851) (i := 3) C dL_law_851 rfl rfl ?_
  refine g_callHi (pc := 852) (As := [.ref (X.ad 0), .int (s1), .int (s2), .ref (X.ad 476)]) C (kL_show X σ s1 s2 476 1 ok_out hfl) q_38_3 q_38_4 q_6_18 q_38_5 hdL_show ⟨Nat.le_of_ble_eq_true rfl, Nat.le_of_ble_eq_true rfl, rfl, rfl, by show _ ≤ 601024; omega, by show _ ≤ 7293033; omega⟩ (Nat.le_of_ble_eq_true rfl) rfl rfl dL_law_852 (fun r38 _ => ?_)
  refine g_istore (pc := 855) C dL_law_855 (Nat.le_of_ble_eq_true rfl) rfl ?_
  refine g_aload_n (pc := 857) (i := 2) C dL_law_857 rfl rfl ?_
  refine g_aload_n (pc := 858) (i := 0) C dL_law_858 rfl rfl ?_
  refine g_iload (pc := 859) C dL_law_859 rfl ?_
  refine g_iconst (pc := 861) (v := 1) C dL_law_861 (by decide) ?_
  refine g_iadd (pc := 862) C dL_law_862 ?_
  refine g_sld (pc := 863) C hr dL_law_863 ?_
  refine g_aload_n (pc := 864) (i := 0) C dL_law_864 rfl rfl ?_
  refine g_iload (pc := 865) C dL_law_865 rfl ?_
  refine g_iconst (pc := 867) (v := 2) C dL_law_867 (by decide) ?_
  refine g_iadd (pc := 868) C dL_law_868 ?_
  refine g_sld (pc := 869) C hr dL_law_869 ?_
  refine g_if_eq (pc := 870) (tgt := 877) C dL_law_870 rfl ?_ ?_
  · refine g_iconst (pc := 877) (v := 0) C dL_law_877 (by decide) ?_
    refine g_keep [true, true, true, true, true, false, false] ?_
    refine g_widen (cs' := cs + 12) (ss' := ss + 72) (by omega) (by omega) ?_
    exact bL_law_878 C hr hfl hcs hk23 r38.2 l4 (xs (l4 + 1).toNatClampNeg) 0
  · refine g_iconst (pc := 873) (v := 1) C dL_law_873 (by decide) ?_
    refine g_goto (pc := 874) (tgt := 878) C dL_law_874 rfl ?_
    refine g_keep [true, true, true, true, true, false, false] ?_
    refine g_widen (cs' := cs + 12) (ss' := ss + 72) (by omega) (by omega) ?_
    exact bL_law_878 C hr hfl hcs hk23 r38.2 l4 (xs (l4 + 1).toNatClampNeg) 1
def fL_law_830 (L : Nat) (xs : Nat → Int32) (k23 : Sg → Int32 → Option Bool) (σ : Sg) (l4 : Int32) : Option Bool :=
  if ck (l4 + 1) L then
    if ck (l4 + 2) L then
      if (xs (l4 + 2).toNatClampNeg) = 0 then
        (fL_law_851 L xs k23 σ l4 (xs (l4 + 1).toNatClampNeg) 0)
      else
        (fL_law_851 L xs k23 σ l4 (xs (l4 + 1).toNatClampNeg) 1)
    else none
  else none
theorem bL_law_830 {X : Xc} {K : Kc} {L b cs ss : Nat} {xs : Nat → Int32} (C : MC X K cL_law 7 RL room_1) (hr : LH X K b L xs) (hfl : X.l.stackTraces = false) (hcs : cs + 12 ≤ 601024 ∧ ss + 72 ≤ 7293033) {k23 : Sg → Int32 → Option Bool} (hk23 : ∀ (σ : Sg) (l4 : Int32), GO X K 7 (lawQ K) (k23 σ l4) σ (cs + 12) (ss + 72) 23 [some (.ref b), some (.ref (X.ad 0)), some (.ref (X.ad 462)), some (.ref (X.ad 476)), some (.int (l4)), none, none] []) (σ : Sg) (l4 : Int32) : GO X K 7 (lawQ K) (fL_law_830 L xs k23 σ l4) σ (cs + 0) (ss + 0) 830 [some (.ref b), some (.ref (X.ad 0)), some (.ref (X.ad 462)), some (.ref (X.ad 476)), some (.int (l4)), none, none] [] := by
  unfold fL_law_830
  refine g_aload_n (pc := 830) (i := 1) C dL_law_830 rfl rfl ?_
  refine g_aload_n (pc := 831) (i := 0) C dL_law_831 rfl rfl ?_
  refine g_iload (pc := 832) C dL_law_832 rfl ?_
  refine g_iconst (pc := 834) (v := 1) C dL_law_834 (by decide) ?_
  refine g_iadd (pc := 835) C dL_law_835 ?_
  refine g_sld (pc := 836) C hr dL_law_836 ?_
  refine g_aload_n (pc := 837) (i := 0) C dL_law_837 rfl rfl ?_
  refine g_iload (pc := 838) C dL_law_838 rfl ?_
  refine g_iconst (pc := 840) (v := 2) C dL_law_840 (by decide) ?_
  refine g_iadd (pc := 841) C dL_law_841 ?_
  refine g_sld (pc := 842) C hr dL_law_842 ?_
  refine g_if_eq (pc := 843) (tgt := 850) C dL_law_843 rfl ?_ ?_
  · refine g_iconst (pc := 850) (v := 0) C dL_law_850 (by decide) ?_
    refine g_keep [true, true, true, true, true, false, false] ?_
    refine g_widen (cs' := cs + 0) (ss' := ss + 0) (by omega) (by omega) ?_
    exact bL_law_851 C hr hfl hcs hk23 σ l4 (xs (l4 + 1).toNatClampNeg) 0
  · refine g_iconst (pc := 846) (v := 1) C dL_law_846 (by decide) ?_
    refine g_goto (pc := 847) (tgt := 851) C dL_law_847 rfl ?_
    refine g_keep [true, true, true, true, true, false, false] ?_
    refine g_widen (cs' := cs + 0) (ss' := ss + 0) (by omega) (by omega) ?_
    exact bL_law_851 C hr hfl hcs hk23 σ l4 (xs (l4 + 1).toNatClampNeg) 1
def fL_law_802 (L : Nat) (xs : Nat → Int32) (k23 : Sg → Int32 → Option Bool) (σ : Sg) (l4 : Int32) : Option Bool :=
  if ck (l4 + 1) L then
    (fL_takeAway σ (xs (l4 + 1).toNatClampNeg) 476 1).bind fun r40 =>
    if ck (l4 + 1) L then
      (fX9_takeAway r40.2 462 (xs (l4 + 1).toNatClampNeg)).bind fun r41 =>
      (fL_law_1379 L xs k23 r41.2 l4)
    else none
  else none
theorem bL_law_802 {X : Xc} {K : Kc} {L b cs ss : Nat} {xs : Nat → Int32} (C : MC X K cL_law 7 RL room_1) (hr : LH X K b L xs) (hfl : X.l.stackTraces = false) (hcs : cs + 12 ≤ 601024 ∧ ss + 72 ≤ 7293033) {k23 : Sg → Int32 → Option Bool} (hk23 : ∀ (σ : Sg) (l4 : Int32), GO X K 7 (lawQ K) (k23 σ l4) σ (cs + 12) (ss + 72) 23 [some (.ref b), some (.ref (X.ad 0)), some (.ref (X.ad 462)), some (.ref (X.ad 476)), some (.int (l4)), none, none] []) (σ : Sg) (l4 : Int32) : GO X K 7 (lawQ K) (fL_law_802 L xs k23 σ l4) σ (cs + 0) (ss + 0) 802 [some (.ref b), some (.ref (X.ad 0)), some (.ref (X.ad 462)), some (.ref (X.ad 476)), some (.int (l4)), none, none] [] := by
  unfold fL_law_802
  refine g_aload_n (pc := 802) (i := 1) C dL_law_802 rfl rfl ?_
  refine g_aload_n (pc := 803) (i := 0) C dL_law_803 rfl rfl ?_
  refine g_iload (pc := 804) C dL_law_804 rfl ?_
  refine g_iconst (pc := 806) (v := 1) C dL_law_806 (by decide) ?_
  refine g_iadd (pc := 807) C dL_law_807 ?_
  refine g_sld (pc := 808) C hr dL_law_808 ?_
  refine g_aload_n (pc := 809) (i := 3) C dL_law_809 rfl rfl ?_
  refine g_callHi (pc := 810) (As := [.ref (X.ad 0), .int (xs (l4 + 1).toNatClampNeg), .ref (X.ad 476)]) C (kL_takeAway X σ (xs (l4 + 1).toNatClampNeg) 476 1 ok_out hfl) q_37_12 q_37_13 q_6_18 q_37_14 hdL_takeAway ⟨Nat.le_of_ble_eq_true rfl, Nat.le_of_ble_eq_true rfl, rfl, rfl, by show _ ≤ 601024; omega, by show _ ≤ 7293033; omega⟩ (Nat.le_of_ble_eq_true rfl) rfl rfl dL_law_810 (fun r40 _ => ?_)
  refine g_istore (pc := 813) C dL_law_813 (Nat.le_of_ble_eq_true rfl) rfl ?_
  refine g_aload_n (pc := 815) (i := 2) C dL_law_815 rfl rfl ?_
  refine g_aload_n (pc := 816) (i := 0) C dL_law_816 rfl rfl ?_
  refine g_iload (pc := 817) C dL_law_817 rfl ?_
  refine g_iconst (pc := 819) (v := 1) C dL_law_819 (by decide) ?_
  refine g_iadd (pc := 820) C dL_law_820 ?_
  refine g_sld (pc := 821) C hr dL_law_821 ?_
  refine g_callVi (pc := 822) (As := [.int (xs (l4 + 1).toNatClampNeg)]) C (kX9_takeAway X r40.2 462 (xs (l4 + 1).toNatClampNeg) ok_mo) (blk ok_mo 0 rfl) rfl q_37_19 q_37_20 q_37_21 q_1_5 q_37_22 ⟨rfl, hdX9_takeAway⟩ ⟨Nat.le_of_ble_eq_true rfl, Nat.le_of_ble_eq_true rfl, rfl, rfl⟩ ⟨by show _ ≤ 601024; omega, by show _ ≤ 7293033; omega⟩ (Nat.le_of_ble_eq_true rfl) rfl rfl dL_law_822 (fun r41 _ => ?_)
  refine g_istore (pc := 825) C dL_law_825 (Nat.le_of_ble_eq_true rfl) rfl ?_
  refine g_goto (pc := 827) (tgt := 1379) C dL_law_827 rfl ?_
  refine g_keep [true, true, true, true, true, false, false] ?_
  refine g_widen (cs' := cs + 12) (ss' := ss + 72) (by omega) (by omega) ?_
  exact bL_law_1379 C hr hfl hcs hk23 r41.2 l4
def fL_law_726 (L : Nat) (xs : Nat → Int32) (k23 : Sg → Int32 → Option Bool) (σ : Sg) (l4 : Int32) : Option Bool :=
  if ck (l4 + 1) L then
    if ck (l4 + 2) L then
      if ck (l4 + 3) L then
        if ck (l4 + 4) L then
          if ck (l4 + 5) L then
            (fL_floatAt σ (xs (l4 + 1).toNatClampNeg) (xs (l4 + 2).toNatClampNeg) (xs (l4 + 3).toNatClampNeg) (xs (l4 + 4).toNatClampNeg) (xs (l4 + 5).toNatClampNeg) 476 1).bind fun r42 =>
            if ck (l4 + 1) L then
              if ck (l4 + 2) L then
                if ck (l4 + 3) L then
                  if ck (l4 + 4) L then
                    if ck (l4 + 5) L then
                      (fX9_floatAt r42.2 462 (xs (l4 + 1).toNatClampNeg) (xs (l4 + 2).toNatClampNeg) (xs (l4 + 3).toNatClampNeg) (xs (l4 + 4).toNatClampNeg) (xs (l4 + 5).toNatClampNeg)).bind fun r43 =>
                      (fL_law_1379 L xs k23 r43.2 l4)
                    else none
                  else none
                else none
              else none
            else none
          else none
        else none
      else none
    else none
  else none
theorem bL_law_726 {X : Xc} {K : Kc} {L b cs ss : Nat} {xs : Nat → Int32} (C : MC X K cL_law 7 RL room_1) (hr : LH X K b L xs) (hfl : X.l.stackTraces = false) (hcs : cs + 12 ≤ 601024 ∧ ss + 72 ≤ 7293033) {k23 : Sg → Int32 → Option Bool} (hk23 : ∀ (σ : Sg) (l4 : Int32), GO X K 7 (lawQ K) (k23 σ l4) σ (cs + 12) (ss + 72) 23 [some (.ref b), some (.ref (X.ad 0)), some (.ref (X.ad 462)), some (.ref (X.ad 476)), some (.int (l4)), none, none] []) (σ : Sg) (l4 : Int32) : GO X K 7 (lawQ K) (fL_law_726 L xs k23 σ l4) σ (cs + 0) (ss + 0) 726 [some (.ref b), some (.ref (X.ad 0)), some (.ref (X.ad 462)), some (.ref (X.ad 476)), some (.int (l4)), none, none] [] := by
  unfold fL_law_726
  refine g_aload_n (pc := 726) (i := 1) C dL_law_726 rfl rfl ?_
  refine g_aload_n (pc := 727) (i := 0) C dL_law_727 rfl rfl ?_
  refine g_iload (pc := 728) C dL_law_728 rfl ?_
  refine g_iconst (pc := 730) (v := 1) C dL_law_730 (by decide) ?_
  refine g_iadd (pc := 731) C dL_law_731 ?_
  refine g_sld (pc := 732) C hr dL_law_732 ?_
  refine g_aload_n (pc := 733) (i := 0) C dL_law_733 rfl rfl ?_
  refine g_iload (pc := 734) C dL_law_734 rfl ?_
  refine g_iconst (pc := 736) (v := 2) C dL_law_736 (by decide) ?_
  refine g_iadd (pc := 737) C dL_law_737 ?_
  refine g_sld (pc := 738) C hr dL_law_738 ?_
  refine g_aload_n (pc := 739) (i := 0) C dL_law_739 rfl rfl ?_
  refine g_iload (pc := 740) C dL_law_740 rfl ?_
  refine g_iconst (pc := 742) (v := 3) C dL_law_742 (by decide) ?_
  refine g_iadd (pc := 743) C dL_law_743 ?_
  refine g_sld (pc := 744) C hr dL_law_744 ?_
  refine g_aload_n (pc := 745) (i := 0) C dL_law_745 rfl rfl ?_
  refine g_iload (pc := 746) C dL_law_746 rfl ?_
  refine g_iconst (pc := 748) (v := 4) C dL_law_748 (by decide) ?_
  refine g_iadd (pc := 749) C dL_law_749 ?_
  refine g_sld (pc := 750) C hr dL_law_750 ?_
  refine g_aload_n (pc := 751) (i := 0) C dL_law_751 rfl rfl ?_
  refine g_iload (pc := 752) C dL_law_752 rfl ?_
  refine g_iconst (pc := 754) (v := 5) C dL_law_754 (by decide) ?_
  refine g_iadd (pc := 755) C dL_law_755 ?_
  refine g_sld (pc := 756) C hr dL_law_756 ?_
  refine g_aload_n (pc := 757) (i := 3) C dL_law_757 rfl rfl ?_
  refine g_callHi (pc := 758) (As := [.ref (X.ad 0), .int (xs (l4 + 1).toNatClampNeg), .int (xs (l4 + 2).toNatClampNeg), .int (xs (l4 + 3).toNatClampNeg), .int (xs (l4 + 4).toNatClampNeg), .int (xs (l4 + 5).toNatClampNeg), .ref (X.ad 476)]) C (kL_floatAt X σ (xs (l4 + 1).toNatClampNeg) (xs (l4 + 2).toNatClampNeg) (xs (l4 + 3).toNatClampNeg) (xs (l4 + 4).toNatClampNeg) (xs (l4 + 5).toNatClampNeg) 476 1 ok_out hfl) q_36_17 q_36_18 q_6_18 q_36_19 hdL_floatAt ⟨Nat.le_of_ble_eq_true rfl, Nat.le_of_ble_eq_true rfl, rfl, rfl, by show _ ≤ 601024; omega, by show _ ≤ 7293033; omega⟩ (Nat.le_of_ble_eq_true rfl) rfl rfl dL_law_758 (fun r42 _ => ?_)
  refine g_istore (pc := 761) C dL_law_761 (Nat.le_of_ble_eq_true rfl) rfl ?_
  refine g_aload_n (pc := 763) (i := 2) C dL_law_763 rfl rfl ?_
  refine g_aload_n (pc := 764) (i := 0) C dL_law_764 rfl rfl ?_
  refine g_iload (pc := 765) C dL_law_765 rfl ?_
  refine g_iconst (pc := 767) (v := 1) C dL_law_767 (by decide) ?_
  refine g_iadd (pc := 768) C dL_law_768 ?_
  refine g_sld (pc := 769) C hr dL_law_769 ?_
  refine g_aload_n (pc := 770) (i := 0) C dL_law_770 rfl rfl ?_
  refine g_iload (pc := 771) C dL_law_771 rfl ?_
  refine g_iconst (pc := 773) (v := 2) C dL_law_773 (by decide) ?_
  refine g_iadd (pc := 774) C dL_law_774 ?_
  refine g_sld (pc := 775) C hr dL_law_775 ?_
  refine g_aload_n (pc := 776) (i := 0) C dL_law_776 rfl rfl ?_
  refine g_iload (pc := 777) C dL_law_777 rfl ?_
  refine g_iconst (pc := 779) (v := 3) C dL_law_779 (by decide) ?_
  refine g_iadd (pc := 780) C dL_law_780 ?_
  refine g_sld (pc := 781) C hr dL_law_781 ?_
  refine g_aload_n (pc := 782) (i := 0) C dL_law_782 rfl rfl ?_
  refine g_iload (pc := 783) C dL_law_783 rfl ?_
  refine g_iconst (pc := 785) (v := 4) C dL_law_785 (by decide) ?_
  refine g_iadd (pc := 786) C dL_law_786 ?_
  refine g_sld (pc := 787) C hr dL_law_787 ?_
  refine g_aload_n (pc := 788) (i := 0) C dL_law_788 rfl rfl ?_
  refine g_iload (pc := 789) C dL_law_789 rfl ?_
  refine g_iconst (pc := 791) (v := 5) C dL_law_791 (by decide) ?_
  refine g_iadd (pc := 792) C dL_law_792 ?_
  refine g_sld (pc := 793) C hr dL_law_793 ?_
  refine g_callVi (pc := 794) (As := [.int (xs (l4 + 1).toNatClampNeg), .int (xs (l4 + 2).toNatClampNeg), .int (xs (l4 + 3).toNatClampNeg), .int (xs (l4 + 4).toNatClampNeg), .int (xs (l4 + 5).toNatClampNeg)]) C (kX9_floatAt X r42.2 462 (xs (l4 + 1).toNatClampNeg) (xs (l4 + 2).toNatClampNeg) (xs (l4 + 3).toNatClampNeg) (xs (l4 + 4).toNatClampNeg) (xs (l4 + 5).toNatClampNeg) ok_mo) (blk ok_mo 0 rfl) rfl q_37_8 q_37_9 q_37_10 q_1_5 q_37_11 ⟨rfl, hdX9_floatAt⟩ ⟨Nat.le_of_ble_eq_true rfl, Nat.le_of_ble_eq_true rfl, rfl, rfl⟩ ⟨by show _ ≤ 601024; omega, by show _ ≤ 7293033; omega⟩ (Nat.le_of_ble_eq_true rfl) rfl rfl dL_law_794 (fun r43 _ => ?_)
  refine g_istore (pc := 797) C dL_law_797 (Nat.le_of_ble_eq_true rfl) rfl ?_
  refine g_goto (pc := 799) (tgt := 1379) C dL_law_799 rfl ?_
  refine g_keep [true, true, true, true, true, false, false] ?_
  refine g_widen (cs' := cs + 12) (ss' := ss + 72) (by omega) (by omega) ?_
  exact bL_law_1379 C hr hfl hcs hk23 r43.2 l4
def fL_law_698 (L : Nat) (xs : Nat → Int32) (k23 : Sg → Int32 → Option Bool) (σ : Sg) (l4 : Int32) : Option Bool :=
  if ck (l4 + 1) L then
    (fL_start σ (xs (l4 + 1).toNatClampNeg) 476 1).bind fun r44 =>
    if ck (l4 + 1) L then
      (fX9_start r44.2 462 (xs (l4 + 1).toNatClampNeg)).bind fun r45 =>
      (fL_law_1379 L xs k23 r45.2 l4)
    else none
  else none
theorem bL_law_698 {X : Xc} {K : Kc} {L b cs ss : Nat} {xs : Nat → Int32} (C : MC X K cL_law 7 RL room_1) (hr : LH X K b L xs) (hfl : X.l.stackTraces = false) (hcs : cs + 12 ≤ 601024 ∧ ss + 72 ≤ 7293033) {k23 : Sg → Int32 → Option Bool} (hk23 : ∀ (σ : Sg) (l4 : Int32), GO X K 7 (lawQ K) (k23 σ l4) σ (cs + 12) (ss + 72) 23 [some (.ref b), some (.ref (X.ad 0)), some (.ref (X.ad 462)), some (.ref (X.ad 476)), some (.int (l4)), none, none] []) (σ : Sg) (l4 : Int32) : GO X K 7 (lawQ K) (fL_law_698 L xs k23 σ l4) σ (cs + 0) (ss + 0) 698 [some (.ref b), some (.ref (X.ad 0)), some (.ref (X.ad 462)), some (.ref (X.ad 476)), some (.int (l4)), none, none] [] := by
  unfold fL_law_698
  refine g_aload_n (pc := 698) (i := 1) C dL_law_698 rfl rfl ?_
  refine g_aload_n (pc := 699) (i := 0) C dL_law_699 rfl rfl ?_
  refine g_iload (pc := 700) C dL_law_700 rfl ?_
  refine g_iconst (pc := 702) (v := 1) C dL_law_702 (by decide) ?_
  refine g_iadd (pc := 703) C dL_law_703 ?_
  refine g_sld (pc := 704) C hr dL_law_704 ?_
  refine g_aload_n (pc := 705) (i := 3) C dL_law_705 rfl rfl ?_
  refine g_callHi (pc := 706) (As := [.ref (X.ad 0), .int (xs (l4 + 1).toNatClampNeg), .ref (X.ad 476)]) C (kL_start X σ (xs (l4 + 1).toNatClampNeg) 476 1 ok_out hfl) q_35_18 q_35_19 q_6_18 q_35_20 hdL_start ⟨Nat.le_of_ble_eq_true rfl, Nat.le_of_ble_eq_true rfl, rfl, rfl, by show _ ≤ 601024; omega, by show _ ≤ 7293033; omega⟩ (Nat.le_of_ble_eq_true rfl) rfl rfl dL_law_706 (fun r44 _ => ?_)
  refine g_istore (pc := 709) C dL_law_709 (Nat.le_of_ble_eq_true rfl) rfl ?_
  refine g_aload_n (pc := 711) (i := 2) C dL_law_711 rfl rfl ?_
  refine g_aload_n (pc := 712) (i := 0) C dL_law_712 rfl rfl ?_
  refine g_iload (pc := 713) C dL_law_713 rfl ?_
  refine g_iconst (pc := 715) (v := 1) C dL_law_715 (by decide) ?_
  refine g_iadd (pc := 716) C dL_law_716 ?_
  refine g_sld (pc := 717) C hr dL_law_717 ?_
  refine g_callVi (pc := 718) (As := [.int (xs (l4 + 1).toNatClampNeg)]) C (kX9_start X r44.2 462 (xs (l4 + 1).toNatClampNeg) ok_mo) (blk ok_mo 0 rfl) rfl q_36_9 q_36_10 q_36_11 q_1_5 q_36_12 ⟨rfl, hdX9_start⟩ ⟨Nat.le_of_ble_eq_true rfl, Nat.le_of_ble_eq_true rfl, rfl, rfl⟩ ⟨by show _ ≤ 601024; omega, by show _ ≤ 7293033; omega⟩ (Nat.le_of_ble_eq_true rfl) rfl rfl dL_law_718 (fun r45 _ => ?_)
  refine g_istore (pc := 721) C dL_law_721 (Nat.le_of_ble_eq_true rfl) rfl ?_
  refine g_goto (pc := 723) (tgt := 1379) C dL_law_723 rfl ?_
  refine g_keep [true, true, true, true, true, false, false] ?_
  refine g_widen (cs' := cs + 12) (ss' := ss + 72) (by omega) (by omega) ?_
  exact bL_law_1379 C hr hfl hcs hk23 r45.2 l4
def fL_law_646 (L : Nat) (xs : Nat → Int32) (k23 : Sg → Int32 → Option Bool) (σ : Sg) (l4 : Int32) : Option Bool :=
  if ck (l4 + 1) L then
    if ck (l4 + 2) L then
      if ck (l4 + 3) L then
        (fL_dock σ (xs (l4 + 1).toNatClampNeg) (xs (l4 + 2).toNatClampNeg) (xs (l4 + 3).toNatClampNeg) 476 1).bind fun r46 =>
        if ck (l4 + 1) L then
          if ck (l4 + 2) L then
            if ck (l4 + 3) L then
              (fX9_dock r46.2 462 (xs (l4 + 1).toNatClampNeg) (xs (l4 + 2).toNatClampNeg) (xs (l4 + 3).toNatClampNeg)).bind fun r47 =>
              (fL_law_1379 L xs k23 r47.2 l4)
            else none
          else none
        else none
      else none
    else none
  else none
theorem bL_law_646 {X : Xc} {K : Kc} {L b cs ss : Nat} {xs : Nat → Int32} (C : MC X K cL_law 7 RL room_1) (hr : LH X K b L xs) (hfl : X.l.stackTraces = false) (hcs : cs + 12 ≤ 601024 ∧ ss + 72 ≤ 7293033) {k23 : Sg → Int32 → Option Bool} (hk23 : ∀ (σ : Sg) (l4 : Int32), GO X K 7 (lawQ K) (k23 σ l4) σ (cs + 12) (ss + 72) 23 [some (.ref b), some (.ref (X.ad 0)), some (.ref (X.ad 462)), some (.ref (X.ad 476)), some (.int (l4)), none, none] []) (σ : Sg) (l4 : Int32) : GO X K 7 (lawQ K) (fL_law_646 L xs k23 σ l4) σ (cs + 0) (ss + 0) 646 [some (.ref b), some (.ref (X.ad 0)), some (.ref (X.ad 462)), some (.ref (X.ad 476)), some (.int (l4)), none, none] [] := by
  unfold fL_law_646
  refine g_aload_n (pc := 646) (i := 1) C dL_law_646 rfl rfl ?_
  refine g_aload_n (pc := 647) (i := 0) C dL_law_647 rfl rfl ?_
  refine g_iload (pc := 648) C dL_law_648 rfl ?_
  refine g_iconst (pc := 650) (v := 1) C dL_law_650 (by decide) ?_
  refine g_iadd (pc := 651) C dL_law_651 ?_
  refine g_sld (pc := 652) C hr dL_law_652 ?_
  refine g_aload_n (pc := 653) (i := 0) C dL_law_653 rfl rfl ?_
  refine g_iload (pc := 654) C dL_law_654 rfl ?_
  refine g_iconst (pc := 656) (v := 2) C dL_law_656 (by decide) ?_
  refine g_iadd (pc := 657) C dL_law_657 ?_
  refine g_sld (pc := 658) C hr dL_law_658 ?_
  refine g_aload_n (pc := 659) (i := 0) C dL_law_659 rfl rfl ?_
  refine g_iload (pc := 660) C dL_law_660 rfl ?_
  refine g_iconst (pc := 662) (v := 3) C dL_law_662 (by decide) ?_
  refine g_iadd (pc := 663) C dL_law_663 ?_
  refine g_sld (pc := 664) C hr dL_law_664 ?_
  refine g_aload_n (pc := 665) (i := 3) C dL_law_665 rfl rfl ?_
  refine g_callHi (pc := 666) (As := [.ref (X.ad 0), .int (xs (l4 + 1).toNatClampNeg), .int (xs (l4 + 2).toNatClampNeg), .int (xs (l4 + 3).toNatClampNeg), .ref (X.ad 476)]) C (kL_dock X σ (xs (l4 + 1).toNatClampNeg) (xs (l4 + 2).toNatClampNeg) (xs (l4 + 3).toNatClampNeg) 476 1 ok_out hfl) q_33_7 q_33_8 q_6_18 q_33_9 hdL_dock ⟨Nat.le_of_ble_eq_true rfl, Nat.le_of_ble_eq_true rfl, rfl, rfl, by show _ ≤ 601024; omega, by show _ ≤ 7293033; omega⟩ (Nat.le_of_ble_eq_true rfl) rfl rfl dL_law_666 (fun r46 _ => ?_)
  refine g_istore (pc := 669) C dL_law_669 (Nat.le_of_ble_eq_true rfl) rfl ?_
  refine g_aload_n (pc := 671) (i := 2) C dL_law_671 rfl rfl ?_
  refine g_aload_n (pc := 672) (i := 0) C dL_law_672 rfl rfl ?_
  refine g_iload (pc := 673) C dL_law_673 rfl ?_
  refine g_iconst (pc := 675) (v := 1) C dL_law_675 (by decide) ?_
  refine g_iadd (pc := 676) C dL_law_676 ?_
  refine g_sld (pc := 677) C hr dL_law_677 ?_
  refine g_aload_n (pc := 678) (i := 0) C dL_law_678 rfl rfl ?_
  refine g_iload (pc := 679) C dL_law_679 rfl ?_
  refine g_iconst (pc := 681) (v := 2) C dL_law_681 (by decide) ?_
  refine g_iadd (pc := 682) C dL_law_682 ?_
  refine g_sld (pc := 683) C hr dL_law_683 ?_
  refine g_aload_n (pc := 684) (i := 0) C dL_law_684 rfl rfl ?_
  refine g_iload (pc := 685) C dL_law_685 rfl ?_
  refine g_iconst (pc := 687) (v := 3) C dL_law_687 (by decide) ?_
  refine g_iadd (pc := 688) C dL_law_688 ?_
  refine g_sld (pc := 689) C hr dL_law_689 ?_
  refine g_callVi (pc := 690) (As := [.int (xs (l4 + 1).toNatClampNeg), .int (xs (l4 + 2).toNatClampNeg), .int (xs (l4 + 3).toNatClampNeg)]) C (kX9_dock X r46.2 462 (xs (l4 + 1).toNatClampNeg) (xs (l4 + 2).toNatClampNeg) (xs (l4 + 3).toNatClampNeg) ok_mo) (blk ok_mo 0 rfl) rfl q_34_18 q_34_19 q_34_20 q_1_5 q_34_21 ⟨rfl, hdX9_dock⟩ ⟨Nat.le_of_ble_eq_true rfl, Nat.le_of_ble_eq_true rfl, rfl, rfl⟩ ⟨by show _ ≤ 601024; omega, by show _ ≤ 7293033; omega⟩ (Nat.le_of_ble_eq_true rfl) rfl rfl dL_law_690 (fun r47 _ => ?_)
  refine g_istore (pc := 693) C dL_law_693 (Nat.le_of_ble_eq_true rfl) rfl ?_
  refine g_goto (pc := 695) (tgt := 1379) C dL_law_695 rfl ?_
  refine g_keep [true, true, true, true, true, false, false] ?_
  refine g_widen (cs' := cs + 12) (ss' := ss + 72) (by omega) (by omega) ?_
  exact bL_law_1379 C hr hfl hcs hk23 r47.2 l4
def fL_law_621 (L : Nat) (xs : Nat → Int32) (k23 : Sg → Int32 → Option Bool) (σ : Sg) (l4 : Int32) : Option Bool :=
  if ck (l4 + 1) L then
    (fX8_floating σ (xs (l4 + 1).toNatClampNeg)).bind fun r48 =>
    if ck (l4 + 1) L then
      (fX9_floating σ 462 (xs (l4 + 1).toNatClampNeg)).bind fun r49 =>
      (fL_law_1379 L xs k23 r49.2 l4)
    else none
  else none
theorem bL_law_621 {X : Xc} {K : Kc} {L b cs ss : Nat} {xs : Nat → Int32} (C : MC X K cL_law 7 RL room_1) (hr : LH X K b L xs) (hfl : X.l.stackTraces = false) (hcs : cs + 12 ≤ 601024 ∧ ss + 72 ≤ 7293033) {k23 : Sg → Int32 → Option Bool} (hk23 : ∀ (σ : Sg) (l4 : Int32), GO X K 7 (lawQ K) (k23 σ l4) σ (cs + 12) (ss + 72) 23 [some (.ref b), some (.ref (X.ad 0)), some (.ref (X.ad 462)), some (.ref (X.ad 476)), some (.int (l4)), none, none] []) (σ : Sg) (l4 : Int32) : GO X K 7 (lawQ K) (fL_law_621 L xs k23 σ l4) σ (cs + 0) (ss + 0) 621 [some (.ref b), some (.ref (X.ad 0)), some (.ref (X.ad 462)), some (.ref (X.ad 476)), some (.int (l4)), none, none] [] := by
  unfold fL_law_621
  refine g_aload_n (pc := 621) (i := 1) C dL_law_621 rfl rfl ?_
  refine g_aload_n (pc := 622) (i := 0) C dL_law_622 rfl rfl ?_
  refine g_iload (pc := 623) C dL_law_623 rfl ?_
  refine g_iconst (pc := 625) (v := 1) C dL_law_625 (by decide) ?_
  refine g_iadd (pc := 626) C dL_law_626 ?_
  refine g_sld (pc := 627) C hr dL_law_627 ?_
  refine g_callVi (pc := 628) (As := [.int (xs (l4 + 1).toNatClampNeg)]) C (kX8_floating X σ (xs (l4 + 1).toNatClampNeg)) ok_dl rfl q_32_19 q_32_20 q_32_21 q_1_2 q_32_22 ⟨rfl, hdX8_floating⟩ ⟨Nat.le_of_ble_eq_true rfl, Nat.le_of_ble_eq_true rfl, rfl, rfl⟩ ⟨by show _ ≤ 601024; omega, by show _ ≤ 7293033; omega⟩ (Nat.le_of_ble_eq_true rfl) rfl rfl dL_law_628 (fun r48 _ => ?_)
  refine g_pop (pc := 631) C dL_law_631 rfl ?_
  refine g_aload_n (pc := 632) (i := 2) C dL_law_632 rfl rfl ?_
  refine g_aload_n (pc := 633) (i := 0) C dL_law_633 rfl rfl ?_
  refine g_iload (pc := 634) C dL_law_634 rfl ?_
  refine g_iconst (pc := 636) (v := 1) C dL_law_636 (by decide) ?_
  refine g_iadd (pc := 637) C dL_law_637 ?_
  refine g_sld (pc := 638) C hr dL_law_638 ?_
  refine g_callVi (pc := 639) (As := [.int (xs (l4 + 1).toNatClampNeg)]) C (kX9_floating X σ 462 (xs (l4 + 1).toNatClampNeg) ok_mo) (blk ok_mo 0 rfl) rfl q_33_3 q_33_4 q_33_5 q_1_5 q_33_6 ⟨rfl, hdX9_floating⟩ ⟨Nat.le_of_ble_eq_true rfl, Nat.le_of_ble_eq_true rfl, rfl, rfl⟩ ⟨by show _ ≤ 601024; omega, by show _ ≤ 7293033; omega⟩ (Nat.le_of_ble_eq_true rfl) rfl rfl dL_law_639 (fun r49 _ => ?_)
  refine g_pop (pc := 642) C dL_law_642 rfl ?_
  refine g_goto (pc := 643) (tgt := 1379) C dL_law_643 rfl ?_
  refine g_keep [true, true, true, true, true, false, false] ?_
  refine g_widen (cs' := cs + 12) (ss' := ss + 72) (by omega) (by omega) ?_
  exact bL_law_1379 C hr hfl hcs hk23 r49.2 l4
def fL_law_581 (L : Nat) (xs : Nat → Int32) (k23 : Sg → Int32 → Option Bool) (σ : Sg) (l4 : Int32) : Option Bool :=
  if ck (l4 + 1) L then
    if ck (l4 + 2) L then
      (fL_window σ (xs (l4 + 1).toNatClampNeg) (xs (l4 + 2).toNatClampNeg) 476 1).bind fun r50 =>
      if ck (l4 + 1) L then
        if ck (l4 + 2) L then
          (fX9_window_ r50.2 462 (xs (l4 + 1).toNatClampNeg) (xs (l4 + 2).toNatClampNeg)).bind fun r51 =>
          (fL_law_1379 L xs k23 r51.2 l4)
        else none
      else none
    else none
  else none
theorem bL_law_581 {X : Xc} {K : Kc} {L b cs ss : Nat} {xs : Nat → Int32} (C : MC X K cL_law 7 RL room_1) (hr : LH X K b L xs) (hfl : X.l.stackTraces = false) (hcs : cs + 12 ≤ 601024 ∧ ss + 72 ≤ 7293033) {k23 : Sg → Int32 → Option Bool} (hk23 : ∀ (σ : Sg) (l4 : Int32), GO X K 7 (lawQ K) (k23 σ l4) σ (cs + 12) (ss + 72) 23 [some (.ref b), some (.ref (X.ad 0)), some (.ref (X.ad 462)), some (.ref (X.ad 476)), some (.int (l4)), none, none] []) (σ : Sg) (l4 : Int32) : GO X K 7 (lawQ K) (fL_law_581 L xs k23 σ l4) σ (cs + 0) (ss + 0) 581 [some (.ref b), some (.ref (X.ad 0)), some (.ref (X.ad 462)), some (.ref (X.ad 476)), some (.int (l4)), none, none] [] := by
  unfold fL_law_581
  refine g_aload_n (pc := 581) (i := 1) C dL_law_581 rfl rfl ?_
  refine g_aload_n (pc := 582) (i := 0) C dL_law_582 rfl rfl ?_
  refine g_iload (pc := 583) C dL_law_583 rfl ?_
  refine g_iconst (pc := 585) (v := 1) C dL_law_585 (by decide) ?_
  refine g_iadd (pc := 586) C dL_law_586 ?_
  refine g_sld (pc := 587) C hr dL_law_587 ?_
  refine g_aload_n (pc := 588) (i := 0) C dL_law_588 rfl rfl ?_
  refine g_iload (pc := 589) C dL_law_589 rfl ?_
  refine g_iconst (pc := 591) (v := 2) C dL_law_591 (by decide) ?_
  refine g_iadd (pc := 592) C dL_law_592 ?_
  refine g_sld (pc := 593) C hr dL_law_593 ?_
  refine g_aload_n (pc := 594) (i := 3) C dL_law_594 rfl rfl ?_
  refine g_callHi (pc := 595) (As := [.ref (X.ad 0), .int (xs (l4 + 1).toNatClampNeg), .int (xs (l4 + 2).toNatClampNeg), .ref (X.ad 476)]) C (kL_window X σ (xs (l4 + 1).toNatClampNeg) (xs (l4 + 2).toNatClampNeg) 476 1 ok_out hfl) q_32_2 q_32_3 q_6_18 q_32_4 hdL_window ⟨Nat.le_of_ble_eq_true rfl, Nat.le_of_ble_eq_true rfl, rfl, rfl, by show _ ≤ 601024; omega, by show _ ≤ 7293033; omega⟩ (Nat.le_of_ble_eq_true rfl) rfl rfl dL_law_595 (fun r50 _ => ?_)
  refine g_istore (pc := 598) C dL_law_598 (Nat.le_of_ble_eq_true rfl) rfl ?_
  refine g_aload_n (pc := 600) (i := 2) C dL_law_600 rfl rfl ?_
  refine g_aload_n (pc := 601) (i := 0) C dL_law_601 rfl rfl ?_
  refine g_iload (pc := 602) C dL_law_602 rfl ?_
  refine g_iconst (pc := 604) (v := 1) C dL_law_604 (by decide) ?_
  refine g_iadd (pc := 605) C dL_law_605 ?_
  refine g_sld (pc := 606) C hr dL_law_606 ?_
  refine g_aload_n (pc := 607) (i := 0) C dL_law_607 rfl rfl ?_
  refine g_iload (pc := 608) C dL_law_608 rfl ?_
  refine g_iconst (pc := 610) (v := 2) C dL_law_610 (by decide) ?_
  refine g_iadd (pc := 611) C dL_law_611 ?_
  refine g_sld (pc := 612) C hr dL_law_612 ?_
  refine g_callVi (pc := 613) (As := [.int (xs (l4 + 1).toNatClampNeg), .int (xs (l4 + 2).toNatClampNeg)]) C (kX9_window_ X r50.2 462 (xs (l4 + 1).toNatClampNeg) (xs (l4 + 2).toNatClampNeg) ok_mo) (blk ok_mo 0 rfl) rfl q_32_11 q_32_12 q_32_13 q_1_5 q_32_14 ⟨rfl, hdX9_window_⟩ ⟨Nat.le_of_ble_eq_true rfl, Nat.le_of_ble_eq_true rfl, rfl, rfl⟩ ⟨by show _ ≤ 601024; omega, by show _ ≤ 7293033; omega⟩ (Nat.le_of_ble_eq_true rfl) rfl rfl dL_law_613 (fun r51 _ => ?_)
  refine g_istore (pc := 616) C dL_law_616 (Nat.le_of_ble_eq_true rfl) rfl ?_
  refine g_goto (pc := 618) (tgt := 1379) C dL_law_618 rfl ?_
  refine g_keep [true, true, true, true, true, false, false] ?_
  refine g_widen (cs' := cs + 12) (ss' := ss + 72) (by omega) (by omega) ?_
  exact bL_law_1379 C hr hfl hcs hk23 r51.2 l4
def fL_law_553 (L : Nat) (xs : Nat → Int32) (k23 : Sg → Int32 → Option Bool) (σ : Sg) (l4 : Int32) : Option Bool :=
  if ck (l4 + 1) L then
    (fL_raise σ (xs (l4 + 1).toNatClampNeg) 476 1).bind fun r52 =>
    if ck (l4 + 1) L then
      (fX9_raise r52.2 462 (xs (l4 + 1).toNatClampNeg)).bind fun r53 =>
      (fL_law_1379 L xs k23 r53.2 l4)
    else none
  else none
theorem bL_law_553 {X : Xc} {K : Kc} {L b cs ss : Nat} {xs : Nat → Int32} (C : MC X K cL_law 7 RL room_1) (hr : LH X K b L xs) (hfl : X.l.stackTraces = false) (hcs : cs + 12 ≤ 601024 ∧ ss + 72 ≤ 7293033) {k23 : Sg → Int32 → Option Bool} (hk23 : ∀ (σ : Sg) (l4 : Int32), GO X K 7 (lawQ K) (k23 σ l4) σ (cs + 12) (ss + 72) 23 [some (.ref b), some (.ref (X.ad 0)), some (.ref (X.ad 462)), some (.ref (X.ad 476)), some (.int (l4)), none, none] []) (σ : Sg) (l4 : Int32) : GO X K 7 (lawQ K) (fL_law_553 L xs k23 σ l4) σ (cs + 0) (ss + 0) 553 [some (.ref b), some (.ref (X.ad 0)), some (.ref (X.ad 462)), some (.ref (X.ad 476)), some (.int (l4)), none, none] [] := by
  unfold fL_law_553
  refine g_aload_n (pc := 553) (i := 1) C dL_law_553 rfl rfl ?_
  refine g_aload_n (pc := 554) (i := 0) C dL_law_554 rfl rfl ?_
  refine g_iload (pc := 555) C dL_law_555 rfl ?_
  refine g_iconst (pc := 557) (v := 1) C dL_law_557 (by decide) ?_
  refine g_iadd (pc := 558) C dL_law_558 ?_
  refine g_sld (pc := 559) C hr dL_law_559 ?_
  refine g_aload_n (pc := 560) (i := 3) C dL_law_560 rfl rfl ?_
  refine g_callHi (pc := 561) (As := [.ref (X.ad 0), .int (xs (l4 + 1).toNatClampNeg), .ref (X.ad 476)]) C (kL_raise X σ (xs (l4 + 1).toNatClampNeg) 476 1 ok_out hfl) q_31_5 q_31_6 q_6_18 q_31_7 hdL_raise ⟨Nat.le_of_ble_eq_true rfl, Nat.le_of_ble_eq_true rfl, rfl, rfl, by show _ ≤ 601024; omega, by show _ ≤ 7293033; omega⟩ (Nat.le_of_ble_eq_true rfl) rfl rfl dL_law_561 (fun r52 _ => ?_)
  refine g_istore (pc := 564) C dL_law_564 (Nat.le_of_ble_eq_true rfl) rfl ?_
  refine g_aload_n (pc := 566) (i := 2) C dL_law_566 rfl rfl ?_
  refine g_aload_n (pc := 567) (i := 0) C dL_law_567 rfl rfl ?_
  refine g_iload (pc := 568) C dL_law_568 rfl ?_
  refine g_iconst (pc := 570) (v := 1) C dL_law_570 (by decide) ?_
  refine g_iadd (pc := 571) C dL_law_571 ?_
  refine g_sld (pc := 572) C hr dL_law_572 ?_
  refine g_callVi (pc := 573) (As := [.int (xs (l4 + 1).toNatClampNeg)]) C (kX9_raise X r52.2 462 (xs (l4 + 1).toNatClampNeg) ok_mo) (blk ok_mo 0 rfl) rfl q_31_18 q_31_19 q_31_20 q_1_5 q_31_21 ⟨rfl, hdX9_raise⟩ ⟨Nat.le_of_ble_eq_true rfl, Nat.le_of_ble_eq_true rfl, rfl, rfl⟩ ⟨by show _ ≤ 601024; omega, by show _ ≤ 7293033; omega⟩ (Nat.le_of_ble_eq_true rfl) rfl rfl dL_law_573 (fun r53 _ => ?_)
  refine g_istore (pc := 576) C dL_law_576 (Nat.le_of_ble_eq_true rfl) rfl ?_
  refine g_goto (pc := 578) (tgt := 1379) C dL_law_578 rfl ?_
  refine g_keep [true, true, true, true, true, false, false] ?_
  refine g_widen (cs' := cs + 12) (ss' := ss + 72) (by omega) (by omega) ?_
  exact bL_law_1379 C hr hfl hcs hk23 r53.2 l4
def fL_law_501 (L : Nat) (xs : Nat → Int32) (k23 : Sg → Int32 → Option Bool) (σ : Sg) (l4 : Int32) : Option Bool :=
  if ck (l4 + 1) L then
    if ck (l4 + 2) L then
      if ck (l4 + 3) L then
        (fL_move σ (xs (l4 + 1).toNatClampNeg) (xs (l4 + 2).toNatClampNeg) (xs (l4 + 3).toNatClampNeg) 476 1).bind fun r54 =>
        if ck (l4 + 1) L then
          if ck (l4 + 2) L then
            if ck (l4 + 3) L then
              (fX9_move r54.2 462 (xs (l4 + 1).toNatClampNeg) (xs (l4 + 2).toNatClampNeg) (xs (l4 + 3).toNatClampNeg)).bind fun r55 =>
              (fL_law_1379 L xs k23 r55.2 l4)
            else none
          else none
        else none
      else none
    else none
  else none
theorem bL_law_501 {X : Xc} {K : Kc} {L b cs ss : Nat} {xs : Nat → Int32} (C : MC X K cL_law 7 RL room_1) (hr : LH X K b L xs) (hfl : X.l.stackTraces = false) (hcs : cs + 12 ≤ 601024 ∧ ss + 72 ≤ 7293033) {k23 : Sg → Int32 → Option Bool} (hk23 : ∀ (σ : Sg) (l4 : Int32), GO X K 7 (lawQ K) (k23 σ l4) σ (cs + 12) (ss + 72) 23 [some (.ref b), some (.ref (X.ad 0)), some (.ref (X.ad 462)), some (.ref (X.ad 476)), some (.int (l4)), none, none] []) (σ : Sg) (l4 : Int32) : GO X K 7 (lawQ K) (fL_law_501 L xs k23 σ l4) σ (cs + 0) (ss + 0) 501 [some (.ref b), some (.ref (X.ad 0)), some (.ref (X.ad 462)), some (.ref (X.ad 476)), some (.int (l4)), none, none] [] := by
  unfold fL_law_501
  refine g_aload_n (pc := 501) (i := 1) C dL_law_501 rfl rfl ?_
  refine g_aload_n (pc := 502) (i := 0) C dL_law_502 rfl rfl ?_
  refine g_iload (pc := 503) C dL_law_503 rfl ?_
  refine g_iconst (pc := 505) (v := 1) C dL_law_505 (by decide) ?_
  refine g_iadd (pc := 506) C dL_law_506 ?_
  refine g_sld (pc := 507) C hr dL_law_507 ?_
  refine g_aload_n (pc := 508) (i := 0) C dL_law_508 rfl rfl ?_
  refine g_iload (pc := 509) C dL_law_509 rfl ?_
  refine g_iconst (pc := 511) (v := 2) C dL_law_511 (by decide) ?_
  refine g_iadd (pc := 512) C dL_law_512 ?_
  refine g_sld (pc := 513) C hr dL_law_513 ?_
  refine g_aload_n (pc := 514) (i := 0) C dL_law_514 rfl rfl ?_
  refine g_iload (pc := 515) C dL_law_515 rfl ?_
  refine g_iconst (pc := 517) (v := 3) C dL_law_517 (by decide) ?_
  refine g_iadd (pc := 518) C dL_law_518 ?_
  refine g_sld (pc := 519) C hr dL_law_519 ?_
  refine g_aload_n (pc := 520) (i := 3) C dL_law_520 rfl rfl ?_
  refine g_callHi (pc := 521) (As := [.ref (X.ad 0), .int (xs (l4 + 1).toNatClampNeg), .int (xs (l4 + 2).toNatClampNeg), .int (xs (l4 + 3).toNatClampNeg), .ref (X.ad 476)]) C (kL_move X σ (xs (l4 + 1).toNatClampNeg) (xs (l4 + 2).toNatClampNeg) (xs (l4 + 3).toNatClampNeg) 476 1 ok_out hfl) q_30_11 q_30_12 q_6_18 q_30_13 hdL_move ⟨Nat.le_of_ble_eq_true rfl, Nat.le_of_ble_eq_true rfl, rfl, rfl, by show _ ≤ 601024; omega, by show _ ≤ 7293033; omega⟩ (Nat.le_of_ble_eq_true rfl) rfl rfl dL_law_521 (fun r54 _ => ?_)
  refine g_istore (pc := 524) C dL_law_524 (Nat.le_of_ble_eq_true rfl) rfl ?_
  refine g_aload_n (pc := 526) (i := 2) C dL_law_526 rfl rfl ?_
  refine g_aload_n (pc := 527) (i := 0) C dL_law_527 rfl rfl ?_
  refine g_iload (pc := 528) C dL_law_528 rfl ?_
  refine g_iconst (pc := 530) (v := 1) C dL_law_530 (by decide) ?_
  refine g_iadd (pc := 531) C dL_law_531 ?_
  refine g_sld (pc := 532) C hr dL_law_532 ?_
  refine g_aload_n (pc := 533) (i := 0) C dL_law_533 rfl rfl ?_
  refine g_iload (pc := 534) C dL_law_534 rfl ?_
  refine g_iconst (pc := 536) (v := 2) C dL_law_536 (by decide) ?_
  refine g_iadd (pc := 537) C dL_law_537 ?_
  refine g_sld (pc := 538) C hr dL_law_538 ?_
  refine g_aload_n (pc := 539) (i := 0) C dL_law_539 rfl rfl ?_
  refine g_iload (pc := 540) C dL_law_540 rfl ?_
  refine g_iconst (pc := 542) (v := 3) C dL_law_542 (by decide) ?_
  refine g_iadd (pc := 543) C dL_law_543 ?_
  refine g_sld (pc := 544) C hr dL_law_544 ?_
  refine g_callVi (pc := 545) (As := [.int (xs (l4 + 1).toNatClampNeg), .int (xs (l4 + 2).toNatClampNeg), .int (xs (l4 + 3).toNatClampNeg)]) C (kX9_move X r54.2 462 (xs (l4 + 1).toNatClampNeg) (xs (l4 + 2).toNatClampNeg) (xs (l4 + 3).toNatClampNeg) ok_mo) (blk ok_mo 0 rfl) rfl q_31_1 q_31_2 q_31_3 q_1_5 q_31_4 ⟨rfl, hdX9_move⟩ ⟨Nat.le_of_ble_eq_true rfl, Nat.le_of_ble_eq_true rfl, rfl, rfl⟩ ⟨by show _ ≤ 601024; omega, by show _ ≤ 7293033; omega⟩ (Nat.le_of_ble_eq_true rfl) rfl rfl dL_law_545 (fun r55 _ => ?_)
  refine g_istore (pc := 548) C dL_law_548 (Nat.le_of_ble_eq_true rfl) rfl ?_
  refine g_goto (pc := 550) (tgt := 1379) C dL_law_550 rfl ?_
  refine g_keep [true, true, true, true, true, false, false] ?_
  refine g_widen (cs' := cs + 12) (ss' := ss + 72) (by omega) (by omega) ?_
  exact bL_law_1379 C hr hfl hcs hk23 r55.2 l4
def fL_law_449 (L : Nat) (xs : Nat → Int32) (k23 : Sg → Int32 → Option Bool) (σ : Sg) (l4 : Int32) : Option Bool :=
  if ck (l4 + 1) L then
    if ck (l4 + 2) L then
      if ck (l4 + 3) L then
        (fL_resize σ (xs (l4 + 1).toNatClampNeg) (xs (l4 + 2).toNatClampNeg) (xs (l4 + 3).toNatClampNeg) 476 1).bind fun r56 =>
        if ck (l4 + 1) L then
          if ck (l4 + 2) L then
            if ck (l4 + 3) L then
              (fX9_resize r56.2 462 (xs (l4 + 1).toNatClampNeg) (xs (l4 + 2).toNatClampNeg) (xs (l4 + 3).toNatClampNeg)).bind fun r57 =>
              (fL_law_1379 L xs k23 r57.2 l4)
            else none
          else none
        else none
      else none
    else none
  else none
theorem bL_law_449 {X : Xc} {K : Kc} {L b cs ss : Nat} {xs : Nat → Int32} (C : MC X K cL_law 7 RL room_1) (hr : LH X K b L xs) (hfl : X.l.stackTraces = false) (hcs : cs + 12 ≤ 601024 ∧ ss + 72 ≤ 7293033) {k23 : Sg → Int32 → Option Bool} (hk23 : ∀ (σ : Sg) (l4 : Int32), GO X K 7 (lawQ K) (k23 σ l4) σ (cs + 12) (ss + 72) 23 [some (.ref b), some (.ref (X.ad 0)), some (.ref (X.ad 462)), some (.ref (X.ad 476)), some (.int (l4)), none, none] []) (σ : Sg) (l4 : Int32) : GO X K 7 (lawQ K) (fL_law_449 L xs k23 σ l4) σ (cs + 0) (ss + 0) 449 [some (.ref b), some (.ref (X.ad 0)), some (.ref (X.ad 462)), some (.ref (X.ad 476)), some (.int (l4)), none, none] [] := by
  unfold fL_law_449
  refine g_aload_n (pc := 449) (i := 1) C dL_law_449 rfl rfl ?_
  refine g_aload_n (pc := 450) (i := 0) C dL_law_450 rfl rfl ?_
  refine g_iload (pc := 451) C dL_law_451 rfl ?_
  refine g_iconst (pc := 453) (v := 1) C dL_law_453 (by decide) ?_
  refine g_iadd (pc := 454) C dL_law_454 ?_
  refine g_sld (pc := 455) C hr dL_law_455 ?_
  refine g_aload_n (pc := 456) (i := 0) C dL_law_456 rfl rfl ?_
  refine g_iload (pc := 457) C dL_law_457 rfl ?_
  refine g_iconst (pc := 459) (v := 2) C dL_law_459 (by decide) ?_
  refine g_iadd (pc := 460) C dL_law_460 ?_
  refine g_sld (pc := 461) C hr dL_law_461 ?_
  refine g_aload_n (pc := 462) (i := 0) C dL_law_462 rfl rfl ?_
  refine g_iload (pc := 463) C dL_law_463 rfl ?_
  refine g_iconst (pc := 465) (v := 3) C dL_law_465 (by decide) ?_
  refine g_iadd (pc := 466) C dL_law_466 ?_
  refine g_sld (pc := 467) C hr dL_law_467 ?_
  refine g_aload_n (pc := 468) (i := 3) C dL_law_468 rfl rfl ?_
  refine g_callHi (pc := 469) (As := [.ref (X.ad 0), .int (xs (l4 + 1).toNatClampNeg), .int (xs (l4 + 2).toNatClampNeg), .int (xs (l4 + 3).toNatClampNeg), .ref (X.ad 476)]) C (kL_resize X σ (xs (l4 + 1).toNatClampNeg) (xs (l4 + 2).toNatClampNeg) (xs (l4 + 3).toNatClampNeg) 476 1 ok_out hfl) q_29_3 q_29_4 q_6_18 q_29_5 hdL_resize ⟨Nat.le_of_ble_eq_true rfl, Nat.le_of_ble_eq_true rfl, rfl, rfl, by show _ ≤ 601024; omega, by show _ ≤ 7293033; omega⟩ (Nat.le_of_ble_eq_true rfl) rfl rfl dL_law_469 (fun r56 _ => ?_)
  refine g_istore (pc := 472) C dL_law_472 (Nat.le_of_ble_eq_true rfl) rfl ?_
  refine g_aload_n (pc := 474) (i := 2) C dL_law_474 rfl rfl ?_
  refine g_aload_n (pc := 475) (i := 0) C dL_law_475 rfl rfl ?_
  refine g_iload (pc := 476) C dL_law_476 rfl ?_
  refine g_iconst (pc := 478) (v := 1) C dL_law_478 (by decide) ?_
  refine g_iadd (pc := 479) C dL_law_479 ?_
  refine g_sld (pc := 480) C hr dL_law_480 ?_
  refine g_aload_n (pc := 481) (i := 0) C dL_law_481 rfl rfl ?_
  refine g_iload (pc := 482) C dL_law_482 rfl ?_
  refine g_iconst (pc := 484) (v := 2) C dL_law_484 (by decide) ?_
  refine g_iadd (pc := 485) C dL_law_485 ?_
  refine g_sld (pc := 486) C hr dL_law_486 ?_
  refine g_aload_n (pc := 487) (i := 0) C dL_law_487 rfl rfl ?_
  refine g_iload (pc := 488) C dL_law_488 rfl ?_
  refine g_iconst (pc := 490) (v := 3) C dL_law_490 (by decide) ?_
  refine g_iadd (pc := 491) C dL_law_491 ?_
  refine g_sld (pc := 492) C hr dL_law_492 ?_
  refine g_callVi (pc := 493) (As := [.int (xs (l4 + 1).toNatClampNeg), .int (xs (l4 + 2).toNatClampNeg), .int (xs (l4 + 3).toNatClampNeg)]) C (kX9_resize X r56.2 462 (xs (l4 + 1).toNatClampNeg) (xs (l4 + 2).toNatClampNeg) (xs (l4 + 3).toNatClampNeg) ok_mo) (blk ok_mo 0 rfl) rfl q_30_3 q_30_4 q_30_5 q_1_5 q_30_6 ⟨rfl, hdX9_resize⟩ ⟨Nat.le_of_ble_eq_true rfl, Nat.le_of_ble_eq_true rfl, rfl, rfl⟩ ⟨by show _ ≤ 601024; omega, by show _ ≤ 7293033; omega⟩ (Nat.le_of_ble_eq_true rfl) rfl rfl dL_law_493 (fun r57 _ => ?_)
  refine g_istore (pc := 496) C dL_law_496 (Nat.le_of_ble_eq_true rfl) rfl ?_
  refine g_goto (pc := 498) (tgt := 1379) C dL_law_498 rfl ?_
  refine g_keep [true, true, true, true, true, false, false] ?_
  refine g_widen (cs' := cs + 12) (ss' := ss + 72) (by omega) (by omega) ?_
  exact bL_law_1379 C hr hfl hcs hk23 r57.2 l4
def fL_law_409 (L : Nat) (xs : Nat → Int32) (k23 : Sg → Int32 → Option Bool) (σ : Sg) (l4 : Int32) : Option Bool :=
  if ck (l4 + 1) L then
    if ck (l4 + 2) L then
      (fL_tab σ (xs (l4 + 1).toNatClampNeg) (xs (l4 + 2).toNatClampNeg) 476 1).bind fun r58 =>
      if ck (l4 + 1) L then
        if ck (l4 + 2) L then
          (fX9_tab r58.2 462 (xs (l4 + 1).toNatClampNeg) (xs (l4 + 2).toNatClampNeg)).bind fun r59 =>
          (fL_law_1379 L xs k23 r59.2 l4)
        else none
      else none
    else none
  else none
theorem bL_law_409 {X : Xc} {K : Kc} {L b cs ss : Nat} {xs : Nat → Int32} (C : MC X K cL_law 7 RL room_1) (hr : LH X K b L xs) (hfl : X.l.stackTraces = false) (hcs : cs + 12 ≤ 601024 ∧ ss + 72 ≤ 7293033) {k23 : Sg → Int32 → Option Bool} (hk23 : ∀ (σ : Sg) (l4 : Int32), GO X K 7 (lawQ K) (k23 σ l4) σ (cs + 12) (ss + 72) 23 [some (.ref b), some (.ref (X.ad 0)), some (.ref (X.ad 462)), some (.ref (X.ad 476)), some (.int (l4)), none, none] []) (σ : Sg) (l4 : Int32) : GO X K 7 (lawQ K) (fL_law_409 L xs k23 σ l4) σ (cs + 0) (ss + 0) 409 [some (.ref b), some (.ref (X.ad 0)), some (.ref (X.ad 462)), some (.ref (X.ad 476)), some (.int (l4)), none, none] [] := by
  unfold fL_law_409
  refine g_aload_n (pc := 409) (i := 1) C dL_law_409 rfl rfl ?_
  refine g_aload_n (pc := 410) (i := 0) C dL_law_410 rfl rfl ?_
  refine g_iload (pc := 411) C dL_law_411 rfl ?_
  refine g_iconst (pc := 413) (v := 1) C dL_law_413 (by decide) ?_
  refine g_iadd (pc := 414) C dL_law_414 ?_
  refine g_sld (pc := 415) C hr dL_law_415 ?_
  refine g_aload_n (pc := 416) (i := 0) C dL_law_416 rfl rfl ?_
  refine g_iload (pc := 417) C dL_law_417 rfl ?_
  refine g_iconst (pc := 419) (v := 2) C dL_law_419 (by decide) ?_
  refine g_iadd (pc := 420) C dL_law_420 ?_
  refine g_sld (pc := 421) C hr dL_law_421 ?_
  refine g_aload_n (pc := 422) (i := 3) C dL_law_422 rfl rfl ?_
  refine g_callHi (pc := 423) (As := [.ref (X.ad 0), .int (xs (l4 + 1).toNatClampNeg), .int (xs (l4 + 2).toNatClampNeg), .ref (X.ad 476)]) C (kL_tab X σ (xs (l4 + 1).toNatClampNeg) (xs (l4 + 2).toNatClampNeg) 476 1 ok_out hfl) q_28_15 q_28_16 q_6_18 q_28_17 hdL_tab ⟨Nat.le_of_ble_eq_true rfl, Nat.le_of_ble_eq_true rfl, rfl, rfl, by show _ ≤ 601024; omega, by show _ ≤ 7293033; omega⟩ (Nat.le_of_ble_eq_true rfl) rfl rfl dL_law_423 (fun r58 _ => ?_)
  refine g_istore (pc := 426) C dL_law_426 (Nat.le_of_ble_eq_true rfl) rfl ?_
  refine g_aload_n (pc := 428) (i := 2) C dL_law_428 rfl rfl ?_
  refine g_aload_n (pc := 429) (i := 0) C dL_law_429 rfl rfl ?_
  refine g_iload (pc := 430) C dL_law_430 rfl ?_
  refine g_iconst (pc := 432) (v := 1) C dL_law_432 (by decide) ?_
  refine g_iadd (pc := 433) C dL_law_433 ?_
  refine g_sld (pc := 434) C hr dL_law_434 ?_
  refine g_aload_n (pc := 435) (i := 0) C dL_law_435 rfl rfl ?_
  refine g_iload (pc := 436) C dL_law_436 rfl ?_
  refine g_iconst (pc := 438) (v := 2) C dL_law_438 (by decide) ?_
  refine g_iadd (pc := 439) C dL_law_439 ?_
  refine g_sld (pc := 440) C hr dL_law_440 ?_
  refine g_callVi (pc := 441) (As := [.int (xs (l4 + 1).toNatClampNeg), .int (xs (l4 + 2).toNatClampNeg)]) C (kX9_tab X r58.2 462 (xs (l4 + 1).toNatClampNeg) (xs (l4 + 2).toNatClampNeg) ok_mo) (blk ok_mo 0 rfl) rfl q_28_23 q_29_0 q_29_1 q_1_5 q_29_2 ⟨rfl, hdX9_tab⟩ ⟨Nat.le_of_ble_eq_true rfl, Nat.le_of_ble_eq_true rfl, rfl, rfl⟩ ⟨by show _ ≤ 601024; omega, by show _ ≤ 7293033; omega⟩ (Nat.le_of_ble_eq_true rfl) rfl rfl dL_law_441 (fun r59 _ => ?_)
  refine g_istore (pc := 444) C dL_law_444 (Nat.le_of_ble_eq_true rfl) rfl ?_
  refine g_goto (pc := 446) (tgt := 1379) C dL_law_446 rfl ?_
  refine g_keep [true, true, true, true, true, false, false] ?_
  refine g_widen (cs' := cs + 12) (ss' := ss + 72) (by omega) (by omega) ?_
  exact bL_law_1379 C hr hfl hcs hk23 r59.2 l4
def fL_law_369 (L : Nat) (xs : Nat → Int32) (k23 : Sg → Int32 → Option Bool) (σ : Sg) (l4 : Int32) : Option Bool :=
  if ck (l4 + 1) L then
    if ck (l4 + 2) L then
      (fL_rectangle σ (xs (l4 + 1).toNatClampNeg) (xs (l4 + 2).toNatClampNeg) 476 1).bind fun r60 =>
      if ck (l4 + 1) L then
        if ck (l4 + 2) L then
          (fX9_rectangle r60.2 462 (xs (l4 + 1).toNatClampNeg) (xs (l4 + 2).toNatClampNeg)).bind fun r61 =>
          (fL_law_1379 L xs k23 r61.2 l4)
        else none
      else none
    else none
  else none
theorem bL_law_369 {X : Xc} {K : Kc} {L b cs ss : Nat} {xs : Nat → Int32} (C : MC X K cL_law 7 RL room_1) (hr : LH X K b L xs) (hfl : X.l.stackTraces = false) (hcs : cs + 12 ≤ 601024 ∧ ss + 72 ≤ 7293033) {k23 : Sg → Int32 → Option Bool} (hk23 : ∀ (σ : Sg) (l4 : Int32), GO X K 7 (lawQ K) (k23 σ l4) σ (cs + 12) (ss + 72) 23 [some (.ref b), some (.ref (X.ad 0)), some (.ref (X.ad 462)), some (.ref (X.ad 476)), some (.int (l4)), none, none] []) (σ : Sg) (l4 : Int32) : GO X K 7 (lawQ K) (fL_law_369 L xs k23 σ l4) σ (cs + 0) (ss + 0) 369 [some (.ref b), some (.ref (X.ad 0)), some (.ref (X.ad 462)), some (.ref (X.ad 476)), some (.int (l4)), none, none] [] := by
  unfold fL_law_369
  refine g_aload_n (pc := 369) (i := 1) C dL_law_369 rfl rfl ?_
  refine g_aload_n (pc := 370) (i := 0) C dL_law_370 rfl rfl ?_
  refine g_iload (pc := 371) C dL_law_371 rfl ?_
  refine g_iconst (pc := 373) (v := 1) C dL_law_373 (by decide) ?_
  refine g_iadd (pc := 374) C dL_law_374 ?_
  refine g_sld (pc := 375) C hr dL_law_375 ?_
  refine g_aload_n (pc := 376) (i := 0) C dL_law_376 rfl rfl ?_
  refine g_iload (pc := 377) C dL_law_377 rfl ?_
  refine g_iconst (pc := 379) (v := 2) C dL_law_379 (by decide) ?_
  refine g_iadd (pc := 380) C dL_law_380 ?_
  refine g_sld (pc := 381) C hr dL_law_381 ?_
  refine g_aload_n (pc := 382) (i := 3) C dL_law_382 rfl rfl ?_
  refine g_callHi (pc := 383) (As := [.ref (X.ad 0), .int (xs (l4 + 1).toNatClampNeg), .int (xs (l4 + 2).toNatClampNeg), .ref (X.ad 476)]) C (kL_rectangle X σ (xs (l4 + 1).toNatClampNeg) (xs (l4 + 2).toNatClampNeg) 476 1 ok_out hfl) q_25_17 q_25_18 q_6_18 q_25_19 hdL_rectangle ⟨Nat.le_of_ble_eq_true rfl, Nat.le_of_ble_eq_true rfl, rfl, rfl, by show _ ≤ 601024; omega, by show _ ≤ 7293033; omega⟩ (Nat.le_of_ble_eq_true rfl) rfl rfl dL_law_383 (fun r60 _ => ?_)
  refine g_istore (pc := 386) C dL_law_386 (Nat.le_of_ble_eq_true rfl) rfl ?_
  refine g_aload_n (pc := 388) (i := 2) C dL_law_388 rfl rfl ?_
  refine g_aload_n (pc := 389) (i := 0) C dL_law_389 rfl rfl ?_
  refine g_iload (pc := 390) C dL_law_390 rfl ?_
  refine g_iconst (pc := 392) (v := 1) C dL_law_392 (by decide) ?_
  refine g_iadd (pc := 393) C dL_law_393 ?_
  refine g_sld (pc := 394) C hr dL_law_394 ?_
  refine g_aload_n (pc := 395) (i := 0) C dL_law_395 rfl rfl ?_
  refine g_iload (pc := 396) C dL_law_396 rfl ?_
  refine g_iconst (pc := 398) (v := 2) C dL_law_398 (by decide) ?_
  refine g_iadd (pc := 399) C dL_law_399 ?_
  refine g_sld (pc := 400) C hr dL_law_400 ?_
  refine g_callVi (pc := 401) (As := [.int (xs (l4 + 1).toNatClampNeg), .int (xs (l4 + 2).toNatClampNeg)]) C (kX9_rectangle X r60.2 462 (xs (l4 + 1).toNatClampNeg) (xs (l4 + 2).toNatClampNeg) ok_mo) (blk ok_mo 0 rfl) rfl q_26_17 q_26_18 q_26_19 q_1_5 q_26_20 ⟨rfl, hdX9_rectangle⟩ ⟨Nat.le_of_ble_eq_true rfl, Nat.le_of_ble_eq_true rfl, rfl, rfl⟩ ⟨by show _ ≤ 601024; omega, by show _ ≤ 7293033; omega⟩ (Nat.le_of_ble_eq_true rfl) rfl rfl dL_law_401 (fun r61 _ => ?_)
  refine g_istore (pc := 404) C dL_law_404 (Nat.le_of_ble_eq_true rfl) rfl ?_
  refine g_goto (pc := 406) (tgt := 1379) C dL_law_406 rfl ?_
  refine g_keep [true, true, true, true, true, false, false] ?_
  refine g_widen (cs' := cs + 12) (ss' := ss + 72) (by omega) (by omega) ?_
  exact bL_law_1379 C hr hfl hcs hk23 r61.2 l4
def fL_law_329 (L : Nat) (xs : Nat → Int32) (k23 : Sg → Int32 → Option Bool) (σ : Sg) (l4 : Int32) : Option Bool :=
  if ck (l4 + 1) L then
    if ck (l4 + 2) L then
      (fL_pane σ (xs (l4 + 1).toNatClampNeg) (xs (l4 + 2).toNatClampNeg) 476 1).bind fun r62 =>
      if ck (l4 + 1) L then
        if ck (l4 + 2) L then
          (fX9_pane r62.2 462 (xs (l4 + 1).toNatClampNeg) (xs (l4 + 2).toNatClampNeg)).bind fun r63 =>
          (fL_law_1379 L xs k23 r63.2 l4)
        else none
      else none
    else none
  else none
theorem bL_law_329 {X : Xc} {K : Kc} {L b cs ss : Nat} {xs : Nat → Int32} (C : MC X K cL_law 7 RL room_1) (hr : LH X K b L xs) (hfl : X.l.stackTraces = false) (hcs : cs + 12 ≤ 601024 ∧ ss + 72 ≤ 7293033) {k23 : Sg → Int32 → Option Bool} (hk23 : ∀ (σ : Sg) (l4 : Int32), GO X K 7 (lawQ K) (k23 σ l4) σ (cs + 12) (ss + 72) 23 [some (.ref b), some (.ref (X.ad 0)), some (.ref (X.ad 462)), some (.ref (X.ad 476)), some (.int (l4)), none, none] []) (σ : Sg) (l4 : Int32) : GO X K 7 (lawQ K) (fL_law_329 L xs k23 σ l4) σ (cs + 0) (ss + 0) 329 [some (.ref b), some (.ref (X.ad 0)), some (.ref (X.ad 462)), some (.ref (X.ad 476)), some (.int (l4)), none, none] [] := by
  unfold fL_law_329
  refine g_aload_n (pc := 329) (i := 1) C dL_law_329 rfl rfl ?_
  refine g_aload_n (pc := 330) (i := 0) C dL_law_330 rfl rfl ?_
  refine g_iload (pc := 331) C dL_law_331 rfl ?_
  refine g_iconst (pc := 333) (v := 1) C dL_law_333 (by decide) ?_
  refine g_iadd (pc := 334) C dL_law_334 ?_
  refine g_sld (pc := 335) C hr dL_law_335 ?_
  refine g_aload_n (pc := 336) (i := 0) C dL_law_336 rfl rfl ?_
  refine g_iload (pc := 337) C dL_law_337 rfl ?_
  refine g_iconst (pc := 339) (v := 2) C dL_law_339 (by decide) ?_
  refine g_iadd (pc := 340) C dL_law_340 ?_
  refine g_sld (pc := 341) C hr dL_law_341 ?_
  refine g_aload_n (pc := 342) (i := 3) C dL_law_342 rfl rfl ?_
  refine g_callHi (pc := 343) (As := [.ref (X.ad 0), .int (xs (l4 + 1).toNatClampNeg), .int (xs (l4 + 2).toNatClampNeg), .ref (X.ad 476)]) C (kL_pane X σ (xs (l4 + 1).toNatClampNeg) (xs (l4 + 2).toNatClampNeg) 476 1 ok_out hfl) q_24_11 q_24_12 q_6_18 q_24_13 hdL_pane ⟨Nat.le_of_ble_eq_true rfl, Nat.le_of_ble_eq_true rfl, rfl, rfl, by show _ ≤ 601024; omega, by show _ ≤ 7293033; omega⟩ (Nat.le_of_ble_eq_true rfl) rfl rfl dL_law_343 (fun r62 _ => ?_)
  refine g_istore (pc := 346) C dL_law_346 (Nat.le_of_ble_eq_true rfl) rfl ?_
  refine g_aload_n (pc := 348) (i := 2) C dL_law_348 rfl rfl ?_
  refine g_aload_n (pc := 349) (i := 0) C dL_law_349 rfl rfl ?_
  refine g_iload (pc := 350) C dL_law_350 rfl ?_
  refine g_iconst (pc := 352) (v := 1) C dL_law_352 (by decide) ?_
  refine g_iadd (pc := 353) C dL_law_353 ?_
  refine g_sld (pc := 354) C hr dL_law_354 ?_
  refine g_aload_n (pc := 355) (i := 0) C dL_law_355 rfl rfl ?_
  refine g_iload (pc := 356) C dL_law_356 rfl ?_
  refine g_iconst (pc := 358) (v := 2) C dL_law_358 (by decide) ?_
  refine g_iadd (pc := 359) C dL_law_359 ?_
  refine g_sld (pc := 360) C hr dL_law_360 ?_
  refine g_callVi (pc := 361) (As := [.int (xs (l4 + 1).toNatClampNeg), .int (xs (l4 + 2).toNatClampNeg)]) C (kX9_pane X r62.2 462 (xs (l4 + 1).toNatClampNeg) (xs (l4 + 2).toNatClampNeg) ok_mo) (blk ok_mo 0 rfl) rfl q_25_9 q_25_10 q_25_11 q_1_5 q_25_12 ⟨rfl, hdX9_pane⟩ ⟨Nat.le_of_ble_eq_true rfl, Nat.le_of_ble_eq_true rfl, rfl, rfl⟩ ⟨by show _ ≤ 601024; omega, by show _ ≤ 7293033; omega⟩ (Nat.le_of_ble_eq_true rfl) rfl rfl dL_law_361 (fun r63 _ => ?_)
  refine g_istore (pc := 364) C dL_law_364 (Nat.le_of_ble_eq_true rfl) rfl ?_
  refine g_goto (pc := 366) (tgt := 1379) C dL_law_366 rfl ?_
  refine g_keep [true, true, true, true, true, false, false] ?_
  refine g_widen (cs' := cs + 12) (ss' := ss + 72) (by omega) (by omega) ?_
  exact bL_law_1379 C hr hfl hcs hk23 r63.2 l4
def fL_law_316 (L : Nat) (xs : Nat → Int32) (k23 : Sg → Int32 → Option Bool) (σ : Sg) (l4 : Int32) : Option Bool :=
  (fX8_panes σ).bind fun r64 =>
  (fX9_panes σ 462).bind fun r65 =>
  (fL_law_1379 L xs k23 r65.2 l4)
theorem bL_law_316 {X : Xc} {K : Kc} {L b cs ss : Nat} {xs : Nat → Int32} (C : MC X K cL_law 7 RL room_1) (hr : LH X K b L xs) (hfl : X.l.stackTraces = false) (hcs : cs + 12 ≤ 601024 ∧ ss + 72 ≤ 7293033) {k23 : Sg → Int32 → Option Bool} (hk23 : ∀ (σ : Sg) (l4 : Int32), GO X K 7 (lawQ K) (k23 σ l4) σ (cs + 12) (ss + 72) 23 [some (.ref b), some (.ref (X.ad 0)), some (.ref (X.ad 462)), some (.ref (X.ad 476)), some (.int (l4)), none, none] []) (σ : Sg) (l4 : Int32) : GO X K 7 (lawQ K) (fL_law_316 L xs k23 σ l4) σ (cs + 0) (ss + 0) 316 [some (.ref b), some (.ref (X.ad 0)), some (.ref (X.ad 462)), some (.ref (X.ad 476)), some (.int (l4)), none, none] [] := by
  unfold fL_law_316
  refine g_aload_n (pc := 316) (i := 1) C dL_law_316 rfl rfl ?_
  refine g_callVi (pc := 317) (As := []) C (kX8_panes X σ) ok_dl rfl q_24_3 q_24_4 q_24_5 q_1_2 q_24_6 ⟨rfl, hdX8_panes⟩ ⟨Nat.le_of_ble_eq_true rfl, Nat.le_of_ble_eq_true rfl, rfl, rfl⟩ ⟨by show _ ≤ 601024; omega, by show _ ≤ 7293033; omega⟩ (Nat.le_of_ble_eq_true rfl) rfl rfl dL_law_317 (fun r64 _ => ?_)
  refine g_pop (pc := 320) C dL_law_320 rfl ?_
  refine g_aload_n (pc := 321) (i := 2) C dL_law_321 rfl rfl ?_
  refine g_callVi (pc := 322) (As := []) C (kX9_panes X σ 462 ok_mo) (blk ok_mo 0 rfl) rfl q_24_7 q_24_8 q_24_9 q_1_5 q_24_10 ⟨rfl, hdX9_panes⟩ ⟨Nat.le_of_ble_eq_true rfl, Nat.le_of_ble_eq_true rfl, rfl, rfl⟩ ⟨by show _ ≤ 601024; omega, by show _ ≤ 7293033; omega⟩ (Nat.le_of_ble_eq_true rfl) rfl rfl dL_law_322 (fun r65 _ => ?_)
  refine g_pop (pc := 325) C dL_law_325 rfl ?_
  refine g_goto (pc := 326) (tgt := 1379) C dL_law_326 rfl ?_
  refine g_keep [true, true, true, true, true, false, false] ?_
  refine g_widen (cs' := cs + 12) (ss' := ss + 72) (by omega) (by omega) ?_
  exact bL_law_1379 C hr hfl hcs hk23 r65.2 l4
def fL_law_264 (L : Nat) (xs : Nat → Int32) (k23 : Sg → Int32 → Option Bool) (σ : Sg) (l4 : Int32) : Option Bool :=
  if ck (l4 + 1) L then
    if ck (l4 + 2) L then
      if ck (l4 + 3) L then
        (fL_setMinimum σ (xs (l4 + 1).toNatClampNeg) (xs (l4 + 2).toNatClampNeg) (xs (l4 + 3).toNatClampNeg) 476 1).bind fun r66 =>
        if ck (l4 + 1) L then
          if ck (l4 + 2) L then
            if ck (l4 + 3) L then
              (fX9_setMinimum r66.2 462 (xs (l4 + 1).toNatClampNeg) (xs (l4 + 2).toNatClampNeg) (xs (l4 + 3).toNatClampNeg)).bind fun r67 =>
              (fL_law_1379 L xs k23 r67.2 l4)
            else none
          else none
        else none
      else none
    else none
  else none
theorem bL_law_264 {X : Xc} {K : Kc} {L b cs ss : Nat} {xs : Nat → Int32} (C : MC X K cL_law 7 RL room_1) (hr : LH X K b L xs) (hfl : X.l.stackTraces = false) (hcs : cs + 12 ≤ 601024 ∧ ss + 72 ≤ 7293033) {k23 : Sg → Int32 → Option Bool} (hk23 : ∀ (σ : Sg) (l4 : Int32), GO X K 7 (lawQ K) (k23 σ l4) σ (cs + 12) (ss + 72) 23 [some (.ref b), some (.ref (X.ad 0)), some (.ref (X.ad 462)), some (.ref (X.ad 476)), some (.int (l4)), none, none] []) (σ : Sg) (l4 : Int32) : GO X K 7 (lawQ K) (fL_law_264 L xs k23 σ l4) σ (cs + 0) (ss + 0) 264 [some (.ref b), some (.ref (X.ad 0)), some (.ref (X.ad 462)), some (.ref (X.ad 476)), some (.int (l4)), none, none] [] := by
  unfold fL_law_264
  refine g_aload_n (pc := 264) (i := 1) C dL_law_264 rfl rfl ?_
  refine g_aload_n (pc := 265) (i := 0) C dL_law_265 rfl rfl ?_
  refine g_iload (pc := 266) C dL_law_266 rfl ?_
  refine g_iconst (pc := 268) (v := 1) C dL_law_268 (by decide) ?_
  refine g_iadd (pc := 269) C dL_law_269 ?_
  refine g_sld (pc := 270) C hr dL_law_270 ?_
  refine g_aload_n (pc := 271) (i := 0) C dL_law_271 rfl rfl ?_
  refine g_iload (pc := 272) C dL_law_272 rfl ?_
  refine g_iconst (pc := 274) (v := 2) C dL_law_274 (by decide) ?_
  refine g_iadd (pc := 275) C dL_law_275 ?_
  refine g_sld (pc := 276) C hr dL_law_276 ?_
  refine g_aload_n (pc := 277) (i := 0) C dL_law_277 rfl rfl ?_
  refine g_iload (pc := 278) C dL_law_278 rfl ?_
  refine g_iconst (pc := 280) (v := 3) C dL_law_280 (by decide) ?_
  refine g_iadd (pc := 281) C dL_law_281 ?_
  refine g_sld (pc := 282) C hr dL_law_282 ?_
  refine g_aload_n (pc := 283) (i := 3) C dL_law_283 rfl rfl ?_
  refine g_callHi (pc := 284) (As := [.ref (X.ad 0), .int (xs (l4 + 1).toNatClampNeg), .int (xs (l4 + 2).toNatClampNeg), .int (xs (l4 + 3).toNatClampNeg), .ref (X.ad 476)]) C (kL_setMinimum X σ (xs (l4 + 1).toNatClampNeg) (xs (l4 + 2).toNatClampNeg) (xs (l4 + 3).toNatClampNeg) 476 1 ok_out hfl) q_23_15 q_23_16 q_6_18 q_23_17 hdL_setMinimum ⟨Nat.le_of_ble_eq_true rfl, Nat.le_of_ble_eq_true rfl, rfl, rfl, by show _ ≤ 601024; omega, by show _ ≤ 7293033; omega⟩ (Nat.le_of_ble_eq_true rfl) rfl rfl dL_law_284 (fun r66 _ => ?_)
  refine g_istore (pc := 287) C dL_law_287 (Nat.le_of_ble_eq_true rfl) rfl ?_
  refine g_aload_n (pc := 289) (i := 2) C dL_law_289 rfl rfl ?_
  refine g_aload_n (pc := 290) (i := 0) C dL_law_290 rfl rfl ?_
  refine g_iload (pc := 291) C dL_law_291 rfl ?_
  refine g_iconst (pc := 293) (v := 1) C dL_law_293 (by decide) ?_
  refine g_iadd (pc := 294) C dL_law_294 ?_
  refine g_sld (pc := 295) C hr dL_law_295 ?_
  refine g_aload_n (pc := 296) (i := 0) C dL_law_296 rfl rfl ?_
  refine g_iload (pc := 297) C dL_law_297 rfl ?_
  refine g_iconst (pc := 299) (v := 2) C dL_law_299 (by decide) ?_
  refine g_iadd (pc := 300) C dL_law_300 ?_
  refine g_sld (pc := 301) C hr dL_law_301 ?_
  refine g_aload_n (pc := 302) (i := 0) C dL_law_302 rfl rfl ?_
  refine g_iload (pc := 303) C dL_law_303 rfl ?_
  refine g_iconst (pc := 305) (v := 3) C dL_law_305 (by decide) ?_
  refine g_iadd (pc := 306) C dL_law_306 ?_
  refine g_sld (pc := 307) C hr dL_law_307 ?_
  refine g_callVi (pc := 308) (As := [.int (xs (l4 + 1).toNatClampNeg), .int (xs (l4 + 2).toNatClampNeg), .int (xs (l4 + 3).toNatClampNeg)]) C (kX9_setMinimum X r66.2 462 (xs (l4 + 1).toNatClampNeg) (xs (l4 + 2).toNatClampNeg) (xs (l4 + 3).toNatClampNeg) ok_mo) (blk ok_mo 0 rfl) rfl q_23_23 q_24_0 q_24_1 q_1_5 q_24_2 ⟨rfl, hdX9_setMinimum⟩ ⟨Nat.le_of_ble_eq_true rfl, Nat.le_of_ble_eq_true rfl, rfl, rfl⟩ ⟨by show _ ≤ 601024; omega, by show _ ≤ 7293033; omega⟩ (Nat.le_of_ble_eq_true rfl) rfl rfl dL_law_308 (fun r67 _ => ?_)
  refine g_istore (pc := 311) C dL_law_311 (Nat.le_of_ble_eq_true rfl) rfl ?_
  refine g_goto (pc := 313) (tgt := 1379) C dL_law_313 rfl ?_
  refine g_keep [true, true, true, true, true, false, false] ?_
  refine g_widen (cs' := cs + 12) (ss' := ss + 72) (by omega) (by omega) ?_
  exact bL_law_1379 C hr hfl hcs hk23 r67.2 l4
def fL_law_236 (L : Nat) (xs : Nat → Int32) (k23 : Sg → Int32 → Option Bool) (σ : Sg) (l4 : Int32) : Option Bool :=
  if ck (l4 + 1) L then
    (fL_remove σ (xs (l4 + 1).toNatClampNeg) 476 1).bind fun r68 =>
    if ck (l4 + 1) L then
      (fX9_remove r68.2 462 (xs (l4 + 1).toNatClampNeg)).bind fun r69 =>
      (fL_law_1379 L xs k23 r69.2 l4)
    else none
  else none
theorem bL_law_236 {X : Xc} {K : Kc} {L b cs ss : Nat} {xs : Nat → Int32} (C : MC X K cL_law 7 RL room_1) (hr : LH X K b L xs) (hfl : X.l.stackTraces = false) (hcs : cs + 12 ≤ 601024 ∧ ss + 72 ≤ 7293033) {k23 : Sg → Int32 → Option Bool} (hk23 : ∀ (σ : Sg) (l4 : Int32), GO X K 7 (lawQ K) (k23 σ l4) σ (cs + 12) (ss + 72) 23 [some (.ref b), some (.ref (X.ad 0)), some (.ref (X.ad 462)), some (.ref (X.ad 476)), some (.int (l4)), none, none] []) (σ : Sg) (l4 : Int32) : GO X K 7 (lawQ K) (fL_law_236 L xs k23 σ l4) σ (cs + 0) (ss + 0) 236 [some (.ref b), some (.ref (X.ad 0)), some (.ref (X.ad 462)), some (.ref (X.ad 476)), some (.int (l4)), none, none] [] := by
  unfold fL_law_236
  refine g_aload_n (pc := 236) (i := 1) C dL_law_236 rfl rfl ?_
  refine g_aload_n (pc := 237) (i := 0) C dL_law_237 rfl rfl ?_
  refine g_iload (pc := 238) C dL_law_238 rfl ?_
  refine g_iconst (pc := 240) (v := 1) C dL_law_240 (by decide) ?_
  refine g_iadd (pc := 241) C dL_law_241 ?_
  refine g_sld (pc := 242) C hr dL_law_242 ?_
  refine g_aload_n (pc := 243) (i := 3) C dL_law_243 rfl rfl ?_
  refine g_callHi (pc := 244) (As := [.ref (X.ad 0), .int (xs (l4 + 1).toNatClampNeg), .ref (X.ad 476)]) C (kL_remove X σ (xs (l4 + 1).toNatClampNeg) 476 1 ok_out hfl) q_10_23 q_11_0 q_6_18 q_11_1 hdL_remove ⟨Nat.le_of_ble_eq_true rfl, Nat.le_of_ble_eq_true rfl, rfl, rfl, by show _ ≤ 601024; omega, by show _ ≤ 7293033; omega⟩ (Nat.le_of_ble_eq_true rfl) rfl rfl dL_law_244 (fun r68 _ => ?_)
  refine g_istore (pc := 247) C dL_law_247 (Nat.le_of_ble_eq_true rfl) rfl ?_
  refine g_aload_n (pc := 249) (i := 2) C dL_law_249 rfl rfl ?_
  refine g_aload_n (pc := 250) (i := 0) C dL_law_250 rfl rfl ?_
  refine g_iload (pc := 251) C dL_law_251 rfl ?_
  refine g_iconst (pc := 253) (v := 1) C dL_law_253 (by decide) ?_
  refine g_iadd (pc := 254) C dL_law_254 ?_
  refine g_sld (pc := 255) C hr dL_law_255 ?_
  refine g_callVi (pc := 256) (As := [.int (xs (l4 + 1).toNatClampNeg)]) C (kX9_remove X r68.2 462 (xs (l4 + 1).toNatClampNeg) ok_mo) (blk ok_mo 0 rfl) rfl q_19_12 q_19_13 q_19_14 q_1_5 q_19_15 ⟨rfl, hdX9_remove⟩ ⟨Nat.le_of_ble_eq_true rfl, Nat.le_of_ble_eq_true rfl, rfl, rfl⟩ ⟨by show _ ≤ 601024; omega, by show _ ≤ 7293033; omega⟩ (Nat.le_of_ble_eq_true rfl) rfl rfl dL_law_256 (fun r69 _ => ?_)
  refine g_istore (pc := 259) C dL_law_259 (Nat.le_of_ble_eq_true rfl) rfl ?_
  refine g_goto (pc := 261) (tgt := 1379) C dL_law_261 rfl ?_
  refine g_keep [true, true, true, true, true, false, false] ?_
  refine g_widen (cs' := cs + 12) (ss' := ss + 72) (by omega) (by omega) ?_
  exact bL_law_1379 C hr hfl hcs hk23 r69.2 l4
def fL_law_196 (L : Nat) (xs : Nat → Int32) (k23 : Sg → Int32 → Option Bool) (σ : Sg) (l4 : Int32) : Option Bool :=
  if ck (l4 + 1) L then
    if ck (l4 + 2) L then
      (fL_create σ (xs (l4 + 1).toNatClampNeg) (xs (l4 + 2).toNatClampNeg) 476 1).bind fun r70 =>
      if ck (l4 + 1) L then
        if ck (l4 + 2) L then
          (fX9_create r70.2 462 (xs (l4 + 1).toNatClampNeg) (xs (l4 + 2).toNatClampNeg)).bind fun r71 =>
          (fL_law_1379 L xs k23 r71.2 l4)
        else none
      else none
    else none
  else none
theorem bL_law_196 {X : Xc} {K : Kc} {L b cs ss : Nat} {xs : Nat → Int32} (C : MC X K cL_law 7 RL room_1) (hr : LH X K b L xs) (hfl : X.l.stackTraces = false) (hcs : cs + 12 ≤ 601024 ∧ ss + 72 ≤ 7293033) {k23 : Sg → Int32 → Option Bool} (hk23 : ∀ (σ : Sg) (l4 : Int32), GO X K 7 (lawQ K) (k23 σ l4) σ (cs + 12) (ss + 72) 23 [some (.ref b), some (.ref (X.ad 0)), some (.ref (X.ad 462)), some (.ref (X.ad 476)), some (.int (l4)), none, none] []) (σ : Sg) (l4 : Int32) : GO X K 7 (lawQ K) (fL_law_196 L xs k23 σ l4) σ (cs + 0) (ss + 0) 196 [some (.ref b), some (.ref (X.ad 0)), some (.ref (X.ad 462)), some (.ref (X.ad 476)), some (.int (l4)), none, none] [] := by
  unfold fL_law_196
  refine g_aload_n (pc := 196) (i := 1) C dL_law_196 rfl rfl ?_
  refine g_aload_n (pc := 197) (i := 0) C dL_law_197 rfl rfl ?_
  refine g_iload (pc := 198) C dL_law_198 rfl ?_
  refine g_iconst (pc := 200) (v := 1) C dL_law_200 (by decide) ?_
  refine g_iadd (pc := 201) C dL_law_201 ?_
  refine g_sld (pc := 202) C hr dL_law_202 ?_
  refine g_aload_n (pc := 203) (i := 0) C dL_law_203 rfl rfl ?_
  refine g_iload (pc := 204) C dL_law_204 rfl ?_
  refine g_iconst (pc := 206) (v := 2) C dL_law_206 (by decide) ?_
  refine g_iadd (pc := 207) C dL_law_207 ?_
  refine g_sld (pc := 208) C hr dL_law_208 ?_
  refine g_aload_n (pc := 209) (i := 3) C dL_law_209 rfl rfl ?_
  refine g_callHi (pc := 210) (As := [.ref (X.ad 0), .int (xs (l4 + 1).toNatClampNeg), .int (xs (l4 + 2).toNatClampNeg), .ref (X.ad 476)]) C (kL_create X σ (xs (l4 + 1).toNatClampNeg) (xs (l4 + 2).toNatClampNeg) 476 1 ok_out hfl) q_6_16 q_6_17 q_6_18 q_6_19 hdL_create ⟨Nat.le_of_ble_eq_true rfl, Nat.le_of_ble_eq_true rfl, rfl, rfl, by show _ ≤ 601024; omega, by show _ ≤ 7293033; omega⟩ (Nat.le_of_ble_eq_true rfl) rfl rfl dL_law_210 (fun r70 _ => ?_)
  refine g_istore (pc := 213) C dL_law_213 (Nat.le_of_ble_eq_true rfl) rfl ?_
  refine g_aload_n (pc := 215) (i := 2) C dL_law_215 rfl rfl ?_
  refine g_aload_n (pc := 216) (i := 0) C dL_law_216 rfl rfl ?_
  refine g_iload (pc := 217) C dL_law_217 rfl ?_
  refine g_iconst (pc := 219) (v := 1) C dL_law_219 (by decide) ?_
  refine g_iadd (pc := 220) C dL_law_220 ?_
  refine g_sld (pc := 221) C hr dL_law_221 ?_
  refine g_aload_n (pc := 222) (i := 0) C dL_law_222 rfl rfl ?_
  refine g_iload (pc := 223) C dL_law_223 rfl ?_
  refine g_iconst (pc := 225) (v := 2) C dL_law_225 (by decide) ?_
  refine g_iadd (pc := 226) C dL_law_226 ?_
  refine g_sld (pc := 227) C hr dL_law_227 ?_
  refine g_callVi (pc := 228) (As := [.int (xs (l4 + 1).toNatClampNeg), .int (xs (l4 + 2).toNatClampNeg)]) C (kX9_create X r70.2 462 (xs (l4 + 1).toNatClampNeg) (xs (l4 + 2).toNatClampNeg) ok_mo) (blk ok_mo 0 rfl) rfl q_9_22 q_9_23 q_10_0 q_1_5 q_10_1 ⟨rfl, hdX9_create⟩ ⟨Nat.le_of_ble_eq_true rfl, Nat.le_of_ble_eq_true rfl, rfl, rfl⟩ ⟨by show _ ≤ 601024; omega, by show _ ≤ 7293033; omega⟩ (Nat.le_of_ble_eq_true rfl) rfl rfl dL_law_228 (fun r71 _ => ?_)
  refine g_istore (pc := 231) C dL_law_231 (Nat.le_of_ble_eq_true rfl) rfl ?_
  refine g_goto (pc := 233) (tgt := 1379) C dL_law_233 rfl ?_
  refine g_keep [true, true, true, true, true, false, false] ?_
  refine g_widen (cs' := cs + 12) (ss' := ss + 72) (by omega) (by omega) ?_
  exact bL_law_1379 C hr hfl hcs hk23 r71.2 l4
def fL_law_23 (L : Nat) (xs : Nat → Int32) (k23 : Sg → Int32 → Option Bool) (σ : Sg) (l4 : Int32) : Option Bool :=
  if ((nI L) - 6) < l4 then
    some true
  else
    if ck l4 L then
      nm ((xs l4.toNatClampNeg) &&& 63) fun v1 =>
      if v1 = 0 then
        (fL_law_196 L xs k23 σ l4)
      else if v1 = 1 then
        (fL_law_236 L xs k23 σ l4)
      else if v1 = 2 then
        (fL_law_264 L xs k23 σ l4)
      else if v1 = 3 then
        (fL_law_316 L xs k23 σ l4)
      else if v1 = 4 then
        (fL_law_329 L xs k23 σ l4)
      else if v1 = 5 then
        (fL_law_369 L xs k23 σ l4)
      else if v1 = 6 then
        (fL_law_409 L xs k23 σ l4)
      else if v1 = 7 then
        (fL_law_449 L xs k23 σ l4)
      else if v1 = 8 then
        (fL_law_501 L xs k23 σ l4)
      else if v1 = 9 then
        (fL_law_553 L xs k23 σ l4)
      else if v1 = 10 then
        (fL_law_581 L xs k23 σ l4)
      else if v1 = 11 then
        (fL_law_621 L xs k23 σ l4)
      else if v1 = 12 then
        (fL_law_646 L xs k23 σ l4)
      else if v1 = 13 then
        (fL_law_698 L xs k23 σ l4)
      else if v1 = 14 then
        (fL_law_726 L xs k23 σ l4)
      else if v1 = 15 then
        (fL_law_802 L xs k23 σ l4)
      else if v1 = 16 then
        (fL_law_830 L xs k23 σ l4)
      else if v1 = 17 then
        (fL_law_886 L xs k23 σ l4)
      else if v1 = 18 then
        (fL_law_914 L xs k23 σ l4)
      else if v1 = 19 then
        (fL_law_954 L xs k23 σ l4)
      else if v1 = 20 then
        (fL_law_1006 L xs k23 σ l4)
      else if v1 = 21 then
        (fL_law_1034 L xs k23 σ l4)
      else if v1 = 22 then
        (fL_law_1059 L xs k23 σ l4)
      else if v1 = 23 then
        (fL_law_1096 L xs k23 σ l4)
      else if v1 = 24 then
        (fL_law_1133 L xs k23 σ l4)
      else if v1 = 25 then
        (fL_law_1170 L xs k23 σ l4)
      else if v1 = 26 then
        (fL_law_1198 L xs k23 σ l4)
      else if v1 = 27 then
        (fL_law_1226 L xs k23 σ l4)
      else if v1 = 28 then
        (fL_law_1254 L xs k23 σ l4)
      else if v1 = 29 then
        (fL_law_1267 L xs k23 σ l4)
      else if v1 = 30 then
        (fL_law_1280 L xs k23 σ l4)
      else if v1 = 31 then
        (fL_law_1296 L xs k23 σ l4)
      else if v1 = 32 then
        (fL_law_1324 L xs k23 σ l4)
      else if v1 = 33 then
        (fL_law_1349 L xs k23 σ l4)
      else if v1 = 34 then
        (fL_law_1365 L xs k23 σ l4)
      else 
        (fL_law_1379 L xs k23 σ l4)
    else none
theorem bL_law_23 {X : Xc} {K : Kc} {L b cs ss : Nat} {xs : Nat → Int32} (C : MC X K cL_law 7 RL room_1) (hr : LH X K b L xs) (hfl : X.l.stackTraces = false) (hcs : cs + 12 ≤ 601024 ∧ ss + 72 ≤ 7293033) {k23 : Sg → Int32 → Option Bool} (hk23 : ∀ (σ : Sg) (l4 : Int32), GO X K 7 (lawQ K) (k23 σ l4) σ (cs + 12) (ss + 72) 23 [some (.ref b), some (.ref (X.ad 0)), some (.ref (X.ad 462)), some (.ref (X.ad 476)), some (.int (l4)), none, none] []) (σ : Sg) (l4 : Int32) : GO X K 7 (lawQ K) (fL_law_23 L xs k23 σ l4) σ (cs + 0) (ss + 0) 23 [some (.ref b), some (.ref (X.ad 0)), some (.ref (X.ad 462)), some (.ref (X.ad 476)), some (.int (l4)), none, none] [] := by
  unfold fL_law_23
  refine g_iload (pc := 23) C dL_law_23 rfl ?_
  refine g_aload_n (pc := 25) (i := 0) C dL_law_25 rfl rfl ?_
  refine g_slen (pc := 26) C hr dL_law_26 ?_
  refine g_bipush (pc := 27) (v := 6) C dL_law_27 (by decide) ?_
  refine g_isub (pc := 29) C dL_law_29 ?_
  refine g_icmp_gt (pc := 30) (tgt := 1385) C dL_law_30 rfl ?_ ?_
  · refine g_iconst (pc := 1385) (v := 1) C dL_law_1385 (by decide) ?_
    exact g_law_t (pc := 1386) C hr (by omega) (by omega) dL_law_1386
  · refine g_aload_n (pc := 33) (i := 0) C dL_law_33 rfl rfl ?_
    refine g_iload (pc := 34) C dL_law_34 rfl ?_
    refine g_sld (pc := 36) C hr dL_law_36 ?_
    refine g_bipush (pc := 37) (v := 63) C dL_law_37 (by decide) ?_
    refine g_iand (pc := 39) C dL_law_39 ?_
    refine g_nm (fun v1 => ?_)
    refine g_ite (fun hz => ?_) (fun hz0 => ?_)
    · refine g_tabin (pc := 40) (tgt := 196) (z := 0) C dL_law_40 hz (by decide) (by decide) rfl rfl ?_
      refine g_keep [true, true, true, true, true, false, false] ?_
      refine g_widen (cs' := cs + 0) (ss' := ss + 0) (by omega) (by omega) ?_
      exact bL_law_196 C hr hfl hcs hk23 σ l4
    refine g_ite (fun hz => ?_) (fun hz1 => ?_)
    · refine g_tabin (pc := 40) (tgt := 236) (z := 1) C dL_law_40 hz (by decide) (by decide) rfl rfl ?_
      refine g_keep [true, true, true, true, true, false, false] ?_
      refine g_widen (cs' := cs + 0) (ss' := ss + 0) (by omega) (by omega) ?_
      exact bL_law_236 C hr hfl hcs hk23 σ l4
    refine g_ite (fun hz => ?_) (fun hz2 => ?_)
    · refine g_tabin (pc := 40) (tgt := 264) (z := 2) C dL_law_40 hz (by decide) (by decide) rfl rfl ?_
      refine g_keep [true, true, true, true, true, false, false] ?_
      refine g_widen (cs' := cs + 0) (ss' := ss + 0) (by omega) (by omega) ?_
      exact bL_law_264 C hr hfl hcs hk23 σ l4
    refine g_ite (fun hz => ?_) (fun hz3 => ?_)
    · refine g_tabin (pc := 40) (tgt := 316) (z := 3) C dL_law_40 hz (by decide) (by decide) rfl rfl ?_
      refine g_keep [true, true, true, true, true, false, false] ?_
      refine g_widen (cs' := cs + 0) (ss' := ss + 0) (by omega) (by omega) ?_
      exact bL_law_316 C hr hfl hcs hk23 σ l4
    refine g_ite (fun hz => ?_) (fun hz4 => ?_)
    · refine g_tabin (pc := 40) (tgt := 329) (z := 4) C dL_law_40 hz (by decide) (by decide) rfl rfl ?_
      refine g_keep [true, true, true, true, true, false, false] ?_
      refine g_widen (cs' := cs + 0) (ss' := ss + 0) (by omega) (by omega) ?_
      exact bL_law_329 C hr hfl hcs hk23 σ l4
    refine g_ite (fun hz => ?_) (fun hz5 => ?_)
    · refine g_tabin (pc := 40) (tgt := 369) (z := 5) C dL_law_40 hz (by decide) (by decide) rfl rfl ?_
      refine g_keep [true, true, true, true, true, false, false] ?_
      refine g_widen (cs' := cs + 0) (ss' := ss + 0) (by omega) (by omega) ?_
      exact bL_law_369 C hr hfl hcs hk23 σ l4
    refine g_ite (fun hz => ?_) (fun hz6 => ?_)
    · refine g_tabin (pc := 40) (tgt := 409) (z := 6) C dL_law_40 hz (by decide) (by decide) rfl rfl ?_
      refine g_keep [true, true, true, true, true, false, false] ?_
      refine g_widen (cs' := cs + 0) (ss' := ss + 0) (by omega) (by omega) ?_
      exact bL_law_409 C hr hfl hcs hk23 σ l4
    refine g_ite (fun hz => ?_) (fun hz7 => ?_)
    · refine g_tabin (pc := 40) (tgt := 449) (z := 7) C dL_law_40 hz (by decide) (by decide) rfl rfl ?_
      refine g_keep [true, true, true, true, true, false, false] ?_
      refine g_widen (cs' := cs + 0) (ss' := ss + 0) (by omega) (by omega) ?_
      exact bL_law_449 C hr hfl hcs hk23 σ l4
    refine g_ite (fun hz => ?_) (fun hz8 => ?_)
    · refine g_tabin (pc := 40) (tgt := 501) (z := 8) C dL_law_40 hz (by decide) (by decide) rfl rfl ?_
      refine g_keep [true, true, true, true, true, false, false] ?_
      refine g_widen (cs' := cs + 0) (ss' := ss + 0) (by omega) (by omega) ?_
      exact bL_law_501 C hr hfl hcs hk23 σ l4
    refine g_ite (fun hz => ?_) (fun hz9 => ?_)
    · refine g_tabin (pc := 40) (tgt := 553) (z := 9) C dL_law_40 hz (by decide) (by decide) rfl rfl ?_
      refine g_keep [true, true, true, true, true, false, false] ?_
      refine g_widen (cs' := cs + 0) (ss' := ss + 0) (by omega) (by omega) ?_
      exact bL_law_553 C hr hfl hcs hk23 σ l4
    refine g_ite (fun hz => ?_) (fun hz10 => ?_)
    · refine g_tabin (pc := 40) (tgt := 581) (z := 10) C dL_law_40 hz (by decide) (by decide) rfl rfl ?_
      refine g_keep [true, true, true, true, true, false, false] ?_
      refine g_widen (cs' := cs + 0) (ss' := ss + 0) (by omega) (by omega) ?_
      exact bL_law_581 C hr hfl hcs hk23 σ l4
    refine g_ite (fun hz => ?_) (fun hz11 => ?_)
    · refine g_tabin (pc := 40) (tgt := 621) (z := 11) C dL_law_40 hz (by decide) (by decide) rfl rfl ?_
      refine g_keep [true, true, true, true, true, false, false] ?_
      refine g_widen (cs' := cs + 0) (ss' := ss + 0) (by omega) (by omega) ?_
      exact bL_law_621 C hr hfl hcs hk23 σ l4
    refine g_ite (fun hz => ?_) (fun hz12 => ?_)
    · refine g_tabin (pc := 40) (tgt := 646) (z := 12) C dL_law_40 hz (by decide) (by decide) rfl rfl ?_
      refine g_keep [true, true, true, true, true, false, false] ?_
      refine g_widen (cs' := cs + 0) (ss' := ss + 0) (by omega) (by omega) ?_
      exact bL_law_646 C hr hfl hcs hk23 σ l4
    refine g_ite (fun hz => ?_) (fun hz13 => ?_)
    · refine g_tabin (pc := 40) (tgt := 698) (z := 13) C dL_law_40 hz (by decide) (by decide) rfl rfl ?_
      refine g_keep [true, true, true, true, true, false, false] ?_
      refine g_widen (cs' := cs + 0) (ss' := ss + 0) (by omega) (by omega) ?_
      exact bL_law_698 C hr hfl hcs hk23 σ l4
    refine g_ite (fun hz => ?_) (fun hz14 => ?_)
    · refine g_tabin (pc := 40) (tgt := 726) (z := 14) C dL_law_40 hz (by decide) (by decide) rfl rfl ?_
      refine g_keep [true, true, true, true, true, false, false] ?_
      refine g_widen (cs' := cs + 0) (ss' := ss + 0) (by omega) (by omega) ?_
      exact bL_law_726 C hr hfl hcs hk23 σ l4
    refine g_ite (fun hz => ?_) (fun hz15 => ?_)
    · refine g_tabin (pc := 40) (tgt := 802) (z := 15) C dL_law_40 hz (by decide) (by decide) rfl rfl ?_
      refine g_keep [true, true, true, true, true, false, false] ?_
      refine g_widen (cs' := cs + 0) (ss' := ss + 0) (by omega) (by omega) ?_
      exact bL_law_802 C hr hfl hcs hk23 σ l4
    refine g_ite (fun hz => ?_) (fun hz16 => ?_)
    · refine g_tabin (pc := 40) (tgt := 830) (z := 16) C dL_law_40 hz (by decide) (by decide) rfl rfl ?_
      refine g_keep [true, true, true, true, true, false, false] ?_
      refine g_widen (cs' := cs + 0) (ss' := ss + 0) (by omega) (by omega) ?_
      exact bL_law_830 C hr hfl hcs hk23 σ l4
    refine g_ite (fun hz => ?_) (fun hz17 => ?_)
    · refine g_tabin (pc := 40) (tgt := 886) (z := 17) C dL_law_40 hz (by decide) (by decide) rfl rfl ?_
      refine g_keep [true, true, true, true, true, false, false] ?_
      refine g_widen (cs' := cs + 0) (ss' := ss + 0) (by omega) (by omega) ?_
      exact bL_law_886 C hr hfl hcs hk23 σ l4
    refine g_ite (fun hz => ?_) (fun hz18 => ?_)
    · refine g_tabin (pc := 40) (tgt := 914) (z := 18) C dL_law_40 hz (by decide) (by decide) rfl rfl ?_
      refine g_keep [true, true, true, true, true, false, false] ?_
      refine g_widen (cs' := cs + 0) (ss' := ss + 0) (by omega) (by omega) ?_
      exact bL_law_914 C hr hfl hcs hk23 σ l4
    refine g_ite (fun hz => ?_) (fun hz19 => ?_)
    · refine g_tabin (pc := 40) (tgt := 954) (z := 19) C dL_law_40 hz (by decide) (by decide) rfl rfl ?_
      refine g_keep [true, true, true, true, true, false, false] ?_
      refine g_widen (cs' := cs + 0) (ss' := ss + 0) (by omega) (by omega) ?_
      exact bL_law_954 C hr hfl hcs hk23 σ l4
    refine g_ite (fun hz => ?_) (fun hz20 => ?_)
    · refine g_tabin (pc := 40) (tgt := 1006) (z := 20) C dL_law_40 hz (by decide) (by decide) rfl rfl ?_
      refine g_keep [true, true, true, true, true, false, false] ?_
      refine g_widen (cs' := cs + 0) (ss' := ss + 0) (by omega) (by omega) ?_
      exact bL_law_1006 C hr hfl hcs hk23 σ l4
    refine g_ite (fun hz => ?_) (fun hz21 => ?_)
    · refine g_tabin (pc := 40) (tgt := 1034) (z := 21) C dL_law_40 hz (by decide) (by decide) rfl rfl ?_
      refine g_keep [true, true, true, true, true, false, false] ?_
      refine g_widen (cs' := cs + 0) (ss' := ss + 0) (by omega) (by omega) ?_
      exact bL_law_1034 C hr hfl hcs hk23 σ l4
    refine g_ite (fun hz => ?_) (fun hz22 => ?_)
    · refine g_tabin (pc := 40) (tgt := 1059) (z := 22) C dL_law_40 hz (by decide) (by decide) rfl rfl ?_
      refine g_keep [true, true, true, true, true, false, false] ?_
      refine g_widen (cs' := cs + 0) (ss' := ss + 0) (by omega) (by omega) ?_
      exact bL_law_1059 C hr hfl hcs hk23 σ l4
    refine g_ite (fun hz => ?_) (fun hz23 => ?_)
    · refine g_tabin (pc := 40) (tgt := 1096) (z := 23) C dL_law_40 hz (by decide) (by decide) rfl rfl ?_
      refine g_keep [true, true, true, true, true, false, false] ?_
      refine g_widen (cs' := cs + 0) (ss' := ss + 0) (by omega) (by omega) ?_
      exact bL_law_1096 C hr hfl hcs hk23 σ l4
    refine g_ite (fun hz => ?_) (fun hz24 => ?_)
    · refine g_tabin (pc := 40) (tgt := 1133) (z := 24) C dL_law_40 hz (by decide) (by decide) rfl rfl ?_
      refine g_keep [true, true, true, true, true, false, false] ?_
      refine g_widen (cs' := cs + 0) (ss' := ss + 0) (by omega) (by omega) ?_
      exact bL_law_1133 C hr hfl hcs hk23 σ l4
    refine g_ite (fun hz => ?_) (fun hz25 => ?_)
    · refine g_tabin (pc := 40) (tgt := 1170) (z := 25) C dL_law_40 hz (by decide) (by decide) rfl rfl ?_
      refine g_keep [true, true, true, true, true, false, false] ?_
      refine g_widen (cs' := cs + 0) (ss' := ss + 0) (by omega) (by omega) ?_
      exact bL_law_1170 C hr hfl hcs hk23 σ l4
    refine g_ite (fun hz => ?_) (fun hz26 => ?_)
    · refine g_tabin (pc := 40) (tgt := 1198) (z := 26) C dL_law_40 hz (by decide) (by decide) rfl rfl ?_
      refine g_keep [true, true, true, true, true, false, false] ?_
      refine g_widen (cs' := cs + 0) (ss' := ss + 0) (by omega) (by omega) ?_
      exact bL_law_1198 C hr hfl hcs hk23 σ l4
    refine g_ite (fun hz => ?_) (fun hz27 => ?_)
    · refine g_tabin (pc := 40) (tgt := 1226) (z := 27) C dL_law_40 hz (by decide) (by decide) rfl rfl ?_
      refine g_keep [true, true, true, true, true, false, false] ?_
      refine g_widen (cs' := cs + 0) (ss' := ss + 0) (by omega) (by omega) ?_
      exact bL_law_1226 C hr hfl hcs hk23 σ l4
    refine g_ite (fun hz => ?_) (fun hz28 => ?_)
    · refine g_tabin (pc := 40) (tgt := 1254) (z := 28) C dL_law_40 hz (by decide) (by decide) rfl rfl ?_
      refine g_keep [true, true, true, true, true, false, false] ?_
      refine g_widen (cs' := cs + 0) (ss' := ss + 0) (by omega) (by omega) ?_
      exact bL_law_1254 C hr hfl hcs hk23 σ l4
    refine g_ite (fun hz => ?_) (fun hz29 => ?_)
    · refine g_tabin (pc := 40) (tgt := 1267) (z := 29) C dL_law_40 hz (by decide) (by decide) rfl rfl ?_
      refine g_keep [true, true, true, true, true, false, false] ?_
      refine g_widen (cs' := cs + 0) (ss' := ss + 0) (by omega) (by omega) ?_
      exact bL_law_1267 C hr hfl hcs hk23 σ l4
    refine g_ite (fun hz => ?_) (fun hz30 => ?_)
    · refine g_tabin (pc := 40) (tgt := 1280) (z := 30) C dL_law_40 hz (by decide) (by decide) rfl rfl ?_
      refine g_keep [true, true, true, true, true, false, false] ?_
      refine g_widen (cs' := cs + 0) (ss' := ss + 0) (by omega) (by omega) ?_
      exact bL_law_1280 C hr hfl hcs hk23 σ l4
    refine g_ite (fun hz => ?_) (fun hz31 => ?_)
    · refine g_tabin (pc := 40) (tgt := 1296) (z := 31) C dL_law_40 hz (by decide) (by decide) rfl rfl ?_
      refine g_keep [true, true, true, true, true, false, false] ?_
      refine g_widen (cs' := cs + 0) (ss' := ss + 0) (by omega) (by omega) ?_
      exact bL_law_1296 C hr hfl hcs hk23 σ l4
    refine g_ite (fun hz => ?_) (fun hz32 => ?_)
    · refine g_tabin (pc := 40) (tgt := 1324) (z := 32) C dL_law_40 hz (by decide) (by decide) rfl rfl ?_
      refine g_keep [true, true, true, true, true, false, false] ?_
      refine g_widen (cs' := cs + 0) (ss' := ss + 0) (by omega) (by omega) ?_
      exact bL_law_1324 C hr hfl hcs hk23 σ l4
    refine g_ite (fun hz => ?_) (fun hz33 => ?_)
    · refine g_tabin (pc := 40) (tgt := 1349) (z := 33) C dL_law_40 hz (by decide) (by decide) rfl rfl ?_
      refine g_keep [true, true, true, true, true, false, false] ?_
      refine g_widen (cs' := cs + 0) (ss' := ss + 0) (by omega) (by omega) ?_
      exact bL_law_1349 C hr hfl hcs hk23 σ l4
    refine g_ite (fun hz => ?_) (fun hz34 => ?_)
    · refine g_tabin (pc := 40) (tgt := 1365) (z := 34) C dL_law_40 hz (by decide) (by decide) rfl rfl ?_
      refine g_keep [true, true, true, true, true, false, false] ?_
      refine g_widen (cs' := cs + 0) (ss' := ss + 0) (by omega) (by omega) ?_
      exact bL_law_1365 C hr hfl hcs hk23 σ l4
    refine g_tabout (pc := 40) (tgt := 1379) C dL_law_40 (tsw_out0_34 hz0 hz1 hz2 hz3 hz4 hz5 hz6 hz7 hz8 hz9 hz10 hz11 hz12 hz13 hz14 hz15 hz16 hz17 hz18 hz19 hz20 hz21 hz22 hz23 hz24 hz25 hz26 hz27 hz28 hz29 hz30 hz31 hz32 hz33 hz34) rfl ?_
    refine g_keep [true, true, true, true, true, false, false] ?_
    refine g_widen (cs' := cs + 12) (ss' := ss + 72) (by omega) (by omega) ?_
    exact bL_law_1379 C hr hfl hcs hk23 σ l4
def fL_loop (L : Nat) (xs : Nat → Int32) : Nat → Sg → Int32 → Option Bool
  | 0, _, _ => none
  | n + 1, σ, l4 => fL_law_23 L xs (fL_loop L xs n) σ l4
theorem bL_loop {X : Xc} {K : Kc} {L b : Nat} {xs : Nat → Int32} (C : MC X K cL_law 7 RL room_1) (hr : LH X K b L xs) (hfl : X.l.stackTraces = false) : ∀ (n : Nat) (σ : Sg) (l4 : Int32) (cs ss : Nat), cs + n * 12 ≤ 601024 → ss + n * 72 ≤ 7293033 → GO X K 7 (lawQ K) (fL_loop L xs n σ l4) σ cs ss 23 [some (.ref b), some (.ref (X.ad 0)), some (.ref (X.ad 462)), some (.ref (X.ad 476)), some (.int (l4)), none, none] [] := by
  intro n
  induction n with
  | zero =>
    intro σ l4 cs ss _ _
    exact g_none
  | succ n ih =>
    intro σ l4 cs ss h1 h2
    exact bL_law_23 (cs := cs) (ss := ss) C hr hfl ⟨by omega, by omega⟩ (fun σ l4 => ih σ l4 _ _ (by omega) (by omega)) σ l4
