theorem dL_0 : decode code 0 = .ok (.new 7, 3) := by decide +kernel
theorem dL_3 : decode code 3 = .ok (.dup, 1) := by decide +kernel
theorem dL_4 : decode code 4 = .ok (.invokespecial 9, 3) := by decide +kernel
theorem dL_7 : decode code 7 = .ok (.astore_n 1, 1) := by decide +kernel
theorem dL_8 : decode code 8 = .ok (.new 10, 3) := by decide +kernel
theorem dL_11 : decode code 11 = .ok (.dup, 1) := by decide +kernel
theorem dL_12 : decode code 12 = .ok (.invokespecial 12, 3) := by decide +kernel
theorem dL_15 : decode code 15 = .ok (.astore_n 2, 1) := by decide +kernel
theorem dL_16 : decode code 16 = .ok (.iconst 0, 1) := by decide +kernel
theorem dL_17 : decode code 17 = .ok (.istore_n 3, 1) := by decide +kernel
theorem dL_18 : decode code 18 = .ok (.iload_n 3, 1) := by decide +kernel
theorem dL_19 : decode code 19 = .ok (.aload_n 0, 1) := by decide +kernel
theorem dL_20 : decode code 20 = .ok (.arraylength, 1) := by decide +kernel
theorem dL_21 : decode code 21 = .ok (.bipush 6, 2) := by decide +kernel
theorem dL_23 : decode code 23 = .ok (.isub, 1) := by decide +kernel
theorem dL_24 : decode code 24 = .ok (.if_icmp .gt 1314, 3) := by decide +kernel
theorem dL_27 : decode code 27 = .ok (.aload_n 0, 1) := by decide +kernel
theorem dL_28 : decode code 28 = .ok (.iload_n 3, 1) := by decide +kernel
theorem dL_29 : decode code 29 = .ok (.iaload, 1) := by decide +kernel
theorem dL_30 : decode code 30 = .ok (.bipush 63, 2) := by decide +kernel
theorem dL_32 : decode code 32 = .ok (.iand, 1) := by decide +kernel
theorem dL_33 : decode code 33 = .ok (.tableswitch 1299 0 42 #[187, 220, 263, 296, 319, 382, 405, 438, 481, 504, 527, 560, 593, 616, 629, 652, 675, 708, 731, 754, 777, 800, 813, 846, 869, 882, 905, 928, 961, 984, 1007, 1040, 1073, 1096, 1129, 1152, 1185, 1198, 1212, 1226, 1249, 1262, 1285], 187) := by decide +kernel
theorem dL_220 : decode code 220 = .ok (.aload_n 1, 1) := by decide +kernel
theorem dL_221 : decode code 221 = .ok (.aload_n 0, 1) := by decide +kernel
theorem dL_222 : decode code 222 = .ok (.iload_n 3, 1) := by decide +kernel
theorem dL_223 : decode code 223 = .ok (.iconst 1, 1) := by decide +kernel
theorem dL_224 : decode code 224 = .ok (.iadd, 1) := by decide +kernel
theorem dL_225 : decode code 225 = .ok (.iaload, 1) := by decide +kernel
theorem dL_226 : decode code 226 = .ok (.aload_n 0, 1) := by decide +kernel
theorem dL_227 : decode code 227 = .ok (.iload_n 3, 1) := by decide +kernel
theorem dL_228 : decode code 228 = .ok (.iconst 2, 1) := by decide +kernel
theorem dL_229 : decode code 229 = .ok (.iadd, 1) := by decide +kernel
theorem dL_230 : decode code 230 = .ok (.iaload, 1) := by decide +kernel
theorem dL_231 : decode code 231 = .ok (.invokevirtual 13, 3) := by decide +kernel
theorem dL_234 : decode code 234 = .ok (.aload_n 2, 1) := by decide +kernel
theorem dL_235 : decode code 235 = .ok (.aload_n 0, 1) := by decide +kernel
theorem dL_236 : decode code 236 = .ok (.iload_n 3, 1) := by decide +kernel
theorem dL_237 : decode code 237 = .ok (.iconst 1, 1) := by decide +kernel
theorem dL_238 : decode code 238 = .ok (.iadd, 1) := by decide +kernel
theorem dL_239 : decode code 239 = .ok (.iaload, 1) := by decide +kernel
theorem dL_240 : decode code 240 = .ok (.aload_n 0, 1) := by decide +kernel
theorem dL_241 : decode code 241 = .ok (.iload_n 3, 1) := by decide +kernel
theorem dL_242 : decode code 242 = .ok (.iconst 2, 1) := by decide +kernel
theorem dL_243 : decode code 243 = .ok (.iadd, 1) := by decide +kernel
theorem dL_244 : decode code 244 = .ok (.iaload, 1) := by decide +kernel
theorem dL_245 : decode code 245 = .ok (.invokevirtual 17, 3) := by decide +kernel
theorem dL_248 : decode code 248 = .ok (.if_icmp .eq 1084, 3) := by decide +kernel
theorem dL_251 : decode code 251 = .ok (.iconst 0, 1) := by decide +kernel
theorem dL_252 : decode code 252 = .ok (.ireturn, 1) := by decide +kernel
theorem dL_253 : decode code 253 = .ok (.aload_n 1, 1) := by decide +kernel
theorem dL_254 : decode code 254 = .ok (.aload_n 0, 1) := by decide +kernel
theorem dL_255 : decode code 255 = .ok (.iload_n 3, 1) := by decide +kernel
theorem dL_256 : decode code 256 = .ok (.iconst 1, 1) := by decide +kernel
theorem dL_257 : decode code 257 = .ok (.iadd, 1) := by decide +kernel
theorem dL_258 : decode code 258 = .ok (.iaload, 1) := by decide +kernel
theorem dL_259 : decode code 259 = .ok (.aload_n 0, 1) := by decide +kernel
theorem dL_260 : decode code 260 = .ok (.iload_n 3, 1) := by decide +kernel
theorem dL_261 : decode code 261 = .ok (.iconst 2, 1) := by decide +kernel
theorem dL_262 : decode code 262 = .ok (.iadd, 1) := by decide +kernel
theorem dL_263 : decode code 263 = .ok (.iaload, 1) := by decide +kernel
theorem dL_264 : decode code 264 = .ok (.aload_n 0, 1) := by decide +kernel
theorem dL_265 : decode code 265 = .ok (.iload_n 3, 1) := by decide +kernel
theorem dL_266 : decode code 266 = .ok (.iconst 3, 1) := by decide +kernel
theorem dL_267 : decode code 267 = .ok (.iadd, 1) := by decide +kernel
theorem dL_268 : decode code 268 = .ok (.iaload, 1) := by decide +kernel
theorem dL_269 : decode code 269 = .ok (.invokevirtual 18, 3) := by decide +kernel
theorem dL_272 : decode code 272 = .ok (.aload_n 2, 1) := by decide +kernel
theorem dL_273 : decode code 273 = .ok (.aload_n 0, 1) := by decide +kernel
theorem dL_274 : decode code 274 = .ok (.iload_n 3, 1) := by decide +kernel
theorem dL_275 : decode code 275 = .ok (.iconst 1, 1) := by decide +kernel
theorem dL_276 : decode code 276 = .ok (.iadd, 1) := by decide +kernel
theorem dL_277 : decode code 277 = .ok (.iaload, 1) := by decide +kernel
theorem dL_278 : decode code 278 = .ok (.aload_n 0, 1) := by decide +kernel
theorem dL_279 : decode code 279 = .ok (.iload_n 3, 1) := by decide +kernel
theorem dL_280 : decode code 280 = .ok (.iconst 2, 1) := by decide +kernel
theorem dL_281 : decode code 281 = .ok (.iadd, 1) := by decide +kernel
theorem dL_282 : decode code 282 = .ok (.iaload, 1) := by decide +kernel
theorem dL_283 : decode code 283 = .ok (.aload_n 0, 1) := by decide +kernel
theorem dL_284 : decode code 284 = .ok (.iload_n 3, 1) := by decide +kernel
theorem dL_285 : decode code 285 = .ok (.iconst 3, 1) := by decide +kernel
theorem dL_286 : decode code 286 = .ok (.iadd, 1) := by decide +kernel
theorem dL_287 : decode code 287 = .ok (.iaload, 1) := by decide +kernel
theorem dL_288 : decode code 288 = .ok (.invokevirtual 22, 3) := by decide +kernel
theorem dL_291 : decode code 291 = .ok (.if_icmp .eq 1041, 3) := by decide +kernel
theorem dL_294 : decode code 294 = .ok (.iconst 0, 1) := by decide +kernel
theorem dL_295 : decode code 295 = .ok (.ireturn, 1) := by decide +kernel
theorem dL_296 : decode code 296 = .ok (.aload_n 1, 1) := by decide +kernel
theorem dL_297 : decode code 297 = .ok (.aload_n 0, 1) := by decide +kernel
theorem dL_298 : decode code 298 = .ok (.iload_n 3, 1) := by decide +kernel
theorem dL_299 : decode code 299 = .ok (.iconst 1, 1) := by decide +kernel
theorem dL_300 : decode code 300 = .ok (.iadd, 1) := by decide +kernel
theorem dL_301 : decode code 301 = .ok (.iaload, 1) := by decide +kernel
theorem dL_302 : decode code 302 = .ok (.aload_n 0, 1) := by decide +kernel
theorem dL_303 : decode code 303 = .ok (.iload_n 3, 1) := by decide +kernel
theorem dL_304 : decode code 304 = .ok (.iconst 2, 1) := by decide +kernel
theorem dL_305 : decode code 305 = .ok (.iadd, 1) := by decide +kernel
theorem dL_306 : decode code 306 = .ok (.iaload, 1) := by decide +kernel
theorem dL_307 : decode code 307 = .ok (.invokevirtual 23, 3) := by decide +kernel
theorem dL_310 : decode code 310 = .ok (.aload_n 2, 1) := by decide +kernel
theorem dL_311 : decode code 311 = .ok (.aload_n 0, 1) := by decide +kernel
theorem dL_312 : decode code 312 = .ok (.iload_n 3, 1) := by decide +kernel
theorem dL_313 : decode code 313 = .ok (.iconst 1, 1) := by decide +kernel
theorem dL_314 : decode code 314 = .ok (.iadd, 1) := by decide +kernel
theorem dL_315 : decode code 315 = .ok (.iaload, 1) := by decide +kernel
theorem dL_316 : decode code 316 = .ok (.aload_n 0, 1) := by decide +kernel
theorem dL_317 : decode code 317 = .ok (.iload_n 3, 1) := by decide +kernel
theorem dL_318 : decode code 318 = .ok (.iconst 2, 1) := by decide +kernel
theorem dL_319 : decode code 319 = .ok (.iadd, 1) := by decide +kernel
theorem dL_320 : decode code 320 = .ok (.iaload, 1) := by decide +kernel
theorem dL_321 : decode code 321 = .ok (.invokevirtual 26, 3) := by decide +kernel
theorem dL_324 : decode code 324 = .ok (.if_icmp .eq 1008, 3) := by decide +kernel
theorem dL_327 : decode code 327 = .ok (.iconst 0, 1) := by decide +kernel
theorem dL_328 : decode code 328 = .ok (.ireturn, 1) := by decide +kernel
theorem dL_329 : decode code 329 = .ok (.aload_n 1, 1) := by decide +kernel
theorem dL_330 : decode code 330 = .ok (.aload_n 0, 1) := by decide +kernel
theorem dL_331 : decode code 331 = .ok (.iload_n 3, 1) := by decide +kernel
theorem dL_332 : decode code 332 = .ok (.iconst 1, 1) := by decide +kernel
theorem dL_333 : decode code 333 = .ok (.iadd, 1) := by decide +kernel
theorem dL_334 : decode code 334 = .ok (.iaload, 1) := by decide +kernel
theorem dL_335 : decode code 335 = .ok (.invokevirtual 27, 3) := by decide +kernel
theorem dL_338 : decode code 338 = .ok (.aload_n 2, 1) := by decide +kernel
theorem dL_339 : decode code 339 = .ok (.aload_n 0, 1) := by decide +kernel
theorem dL_340 : decode code 340 = .ok (.iload_n 3, 1) := by decide +kernel
theorem dL_341 : decode code 341 = .ok (.iconst 1, 1) := by decide +kernel
theorem dL_342 : decode code 342 = .ok (.iadd, 1) := by decide +kernel
theorem dL_343 : decode code 343 = .ok (.iaload, 1) := by decide +kernel
theorem dL_344 : decode code 344 = .ok (.invokevirtual 31, 3) := by decide +kernel
theorem dL_347 : decode code 347 = .ok (.if_icmp .eq 985, 3) := by decide +kernel
theorem dL_350 : decode code 350 = .ok (.iconst 0, 1) := by decide +kernel
theorem dL_351 : decode code 351 = .ok (.ireturn, 1) := by decide +kernel
theorem dL_352 : decode code 352 = .ok (.aload_n 1, 1) := by decide +kernel
theorem dL_353 : decode code 353 = .ok (.aload_n 0, 1) := by decide +kernel
theorem dL_354 : decode code 354 = .ok (.iload_n 3, 1) := by decide +kernel
theorem dL_355 : decode code 355 = .ok (.iconst 1, 1) := by decide +kernel
theorem dL_356 : decode code 356 = .ok (.iadd, 1) := by decide +kernel
theorem dL_357 : decode code 357 = .ok (.iaload, 1) := by decide +kernel
theorem dL_358 : decode code 358 = .ok (.aload_n 0, 1) := by decide +kernel
theorem dL_359 : decode code 359 = .ok (.iload_n 3, 1) := by decide +kernel
theorem dL_360 : decode code 360 = .ok (.iconst 2, 1) := by decide +kernel
theorem dL_361 : decode code 361 = .ok (.iadd, 1) := by decide +kernel
theorem dL_362 : decode code 362 = .ok (.iaload, 1) := by decide +kernel
theorem dL_363 : decode code 363 = .ok (.aload_n 0, 1) := by decide +kernel
theorem dL_364 : decode code 364 = .ok (.iload_n 3, 1) := by decide +kernel
theorem dL_365 : decode code 365 = .ok (.iconst 3, 1) := by decide +kernel
theorem dL_366 : decode code 366 = .ok (.iadd, 1) := by decide +kernel
theorem dL_367 : decode code 367 = .ok (.iaload, 1) := by decide +kernel
theorem dL_368 : decode code 368 = .ok (.aload_n 0, 1) := by decide +kernel
theorem dL_369 : decode code 369 = .ok (.iload_n 3, 1) := by decide +kernel
theorem dL_370 : decode code 370 = .ok (.iconst 4, 1) := by decide +kernel
theorem dL_371 : decode code 371 = .ok (.iadd, 1) := by decide +kernel
theorem dL_372 : decode code 372 = .ok (.iaload, 1) := by decide +kernel
theorem dL_373 : decode code 373 = .ok (.aload_n 0, 1) := by decide +kernel
theorem dL_374 : decode code 374 = .ok (.iload_n 3, 1) := by decide +kernel
theorem dL_375 : decode code 375 = .ok (.iconst 5, 1) := by decide +kernel
theorem dL_376 : decode code 376 = .ok (.iadd, 1) := by decide +kernel
theorem dL_377 : decode code 377 = .ok (.iaload, 1) := by decide +kernel
theorem dL_378 : decode code 378 = .ok (.invokevirtual 32, 3) := by decide +kernel
theorem dL_381 : decode code 381 = .ok (.aload_n 2, 1) := by decide +kernel
theorem dL_382 : decode code 382 = .ok (.aload_n 0, 1) := by decide +kernel
theorem dL_383 : decode code 383 = .ok (.iload_n 3, 1) := by decide +kernel
theorem dL_384 : decode code 384 = .ok (.iconst 1, 1) := by decide +kernel
theorem dL_385 : decode code 385 = .ok (.iadd, 1) := by decide +kernel
theorem dL_386 : decode code 386 = .ok (.iaload, 1) := by decide +kernel
theorem dL_387 : decode code 387 = .ok (.aload_n 0, 1) := by decide +kernel
theorem dL_388 : decode code 388 = .ok (.iload_n 3, 1) := by decide +kernel
theorem dL_389 : decode code 389 = .ok (.iconst 2, 1) := by decide +kernel
theorem dL_390 : decode code 390 = .ok (.iadd, 1) := by decide +kernel
theorem dL_391 : decode code 391 = .ok (.iaload, 1) := by decide +kernel
theorem dL_392 : decode code 392 = .ok (.aload_n 0, 1) := by decide +kernel
theorem dL_393 : decode code 393 = .ok (.iload_n 3, 1) := by decide +kernel
theorem dL_394 : decode code 394 = .ok (.iconst 3, 1) := by decide +kernel
theorem dL_395 : decode code 395 = .ok (.iadd, 1) := by decide +kernel
theorem dL_396 : decode code 396 = .ok (.iaload, 1) := by decide +kernel
theorem dL_397 : decode code 397 = .ok (.aload_n 0, 1) := by decide +kernel
theorem dL_398 : decode code 398 = .ok (.iload_n 3, 1) := by decide +kernel
theorem dL_399 : decode code 399 = .ok (.iconst 4, 1) := by decide +kernel
theorem dL_400 : decode code 400 = .ok (.iadd, 1) := by decide +kernel
theorem dL_401 : decode code 401 = .ok (.iaload, 1) := by decide +kernel
theorem dL_402 : decode code 402 = .ok (.aload_n 0, 1) := by decide +kernel
theorem dL_403 : decode code 403 = .ok (.iload_n 3, 1) := by decide +kernel
theorem dL_404 : decode code 404 = .ok (.iconst 5, 1) := by decide +kernel
theorem dL_405 : decode code 405 = .ok (.iadd, 1) := by decide +kernel
theorem dL_406 : decode code 406 = .ok (.iaload, 1) := by decide +kernel
theorem dL_407 : decode code 407 = .ok (.invokevirtual 36, 3) := by decide +kernel
theorem dL_410 : decode code 410 = .ok (.if_icmp .eq 922, 3) := by decide +kernel
theorem dL_413 : decode code 413 = .ok (.iconst 0, 1) := by decide +kernel
theorem dL_414 : decode code 414 = .ok (.ireturn, 1) := by decide +kernel
theorem dL_415 : decode code 415 = .ok (.aload_n 1, 1) := by decide +kernel
theorem dL_416 : decode code 416 = .ok (.aload_n 0, 1) := by decide +kernel
theorem dL_417 : decode code 417 = .ok (.iload_n 3, 1) := by decide +kernel
theorem dL_418 : decode code 418 = .ok (.iconst 1, 1) := by decide +kernel
theorem dL_419 : decode code 419 = .ok (.iadd, 1) := by decide +kernel
theorem dL_420 : decode code 420 = .ok (.iaload, 1) := by decide +kernel
theorem dL_421 : decode code 421 = .ok (.invokevirtual 37, 3) := by decide +kernel
theorem dL_424 : decode code 424 = .ok (.aload_n 2, 1) := by decide +kernel
theorem dL_425 : decode code 425 = .ok (.aload_n 0, 1) := by decide +kernel
theorem dL_426 : decode code 426 = .ok (.iload_n 3, 1) := by decide +kernel
theorem dL_427 : decode code 427 = .ok (.iconst 1, 1) := by decide +kernel
theorem dL_428 : decode code 428 = .ok (.iadd, 1) := by decide +kernel
theorem dL_429 : decode code 429 = .ok (.iaload, 1) := by decide +kernel
theorem dL_430 : decode code 430 = .ok (.invokevirtual 40, 3) := by decide +kernel
theorem dL_433 : decode code 433 = .ok (.if_icmp .eq 899, 3) := by decide +kernel
theorem dL_436 : decode code 436 = .ok (.iconst 0, 1) := by decide +kernel
theorem dL_437 : decode code 437 = .ok (.ireturn, 1) := by decide +kernel
theorem dL_438 : decode code 438 = .ok (.aload_n 1, 1) := by decide +kernel
theorem dL_439 : decode code 439 = .ok (.aload_n 0, 1) := by decide +kernel
theorem dL_440 : decode code 440 = .ok (.iload_n 3, 1) := by decide +kernel
theorem dL_441 : decode code 441 = .ok (.iconst 1, 1) := by decide +kernel
theorem dL_442 : decode code 442 = .ok (.iadd, 1) := by decide +kernel
theorem dL_443 : decode code 443 = .ok (.iaload, 1) := by decide +kernel
theorem dL_444 : decode code 444 = .ok (.aload_n 0, 1) := by decide +kernel
theorem dL_445 : decode code 445 = .ok (.iload_n 3, 1) := by decide +kernel
theorem dL_446 : decode code 446 = .ok (.iconst 2, 1) := by decide +kernel
theorem dL_447 : decode code 447 = .ok (.iadd, 1) := by decide +kernel
theorem dL_448 : decode code 448 = .ok (.iaload, 1) := by decide +kernel
theorem dL_449 : decode code 449 = .ok (.invokevirtual 41, 3) := by decide +kernel
theorem dL_452 : decode code 452 = .ok (.aload_n 2, 1) := by decide +kernel
theorem dL_453 : decode code 453 = .ok (.aload_n 0, 1) := by decide +kernel
theorem dL_454 : decode code 454 = .ok (.iload_n 3, 1) := by decide +kernel
theorem dL_455 : decode code 455 = .ok (.iconst 1, 1) := by decide +kernel
theorem dL_456 : decode code 456 = .ok (.iadd, 1) := by decide +kernel
theorem dL_457 : decode code 457 = .ok (.iaload, 1) := by decide +kernel
theorem dL_458 : decode code 458 = .ok (.aload_n 0, 1) := by decide +kernel
theorem dL_459 : decode code 459 = .ok (.iload_n 3, 1) := by decide +kernel
theorem dL_460 : decode code 460 = .ok (.iconst 2, 1) := by decide +kernel
theorem dL_461 : decode code 461 = .ok (.iadd, 1) := by decide +kernel
theorem dL_462 : decode code 462 = .ok (.iaload, 1) := by decide +kernel
theorem dL_463 : decode code 463 = .ok (.invokevirtual 44, 3) := by decide +kernel
theorem dL_466 : decode code 466 = .ok (.if_icmp .eq 866, 3) := by decide +kernel
theorem dL_469 : decode code 469 = .ok (.iconst 0, 1) := by decide +kernel
theorem dL_470 : decode code 470 = .ok (.ireturn, 1) := by decide +kernel
theorem dL_471 : decode code 471 = .ok (.aload_n 1, 1) := by decide +kernel
theorem dL_472 : decode code 472 = .ok (.aload_n 0, 1) := by decide +kernel
theorem dL_473 : decode code 473 = .ok (.iload_n 3, 1) := by decide +kernel
theorem dL_474 : decode code 474 = .ok (.iconst 1, 1) := by decide +kernel
theorem dL_475 : decode code 475 = .ok (.iadd, 1) := by decide +kernel
theorem dL_476 : decode code 476 = .ok (.iaload, 1) := by decide +kernel
theorem dL_477 : decode code 477 = .ok (.aload_n 0, 1) := by decide +kernel
theorem dL_478 : decode code 478 = .ok (.iload_n 3, 1) := by decide +kernel
theorem dL_479 : decode code 479 = .ok (.iconst 2, 1) := by decide +kernel
theorem dL_480 : decode code 480 = .ok (.iadd, 1) := by decide +kernel
theorem dL_481 : decode code 481 = .ok (.iaload, 1) := by decide +kernel
theorem dL_482 : decode code 482 = .ok (.aload_n 0, 1) := by decide +kernel
theorem dL_483 : decode code 483 = .ok (.iload_n 3, 1) := by decide +kernel
theorem dL_484 : decode code 484 = .ok (.iconst 3, 1) := by decide +kernel
theorem dL_485 : decode code 485 = .ok (.iadd, 1) := by decide +kernel
theorem dL_486 : decode code 486 = .ok (.iaload, 1) := by decide +kernel
theorem dL_487 : decode code 487 = .ok (.invokevirtual 45, 3) := by decide +kernel
theorem dL_490 : decode code 490 = .ok (.aload_n 2, 1) := by decide +kernel
theorem dL_491 : decode code 491 = .ok (.aload_n 0, 1) := by decide +kernel
theorem dL_492 : decode code 492 = .ok (.iload_n 3, 1) := by decide +kernel
theorem dL_493 : decode code 493 = .ok (.iconst 1, 1) := by decide +kernel
theorem dL_494 : decode code 494 = .ok (.iadd, 1) := by decide +kernel
theorem dL_495 : decode code 495 = .ok (.iaload, 1) := by decide +kernel
theorem dL_496 : decode code 496 = .ok (.aload_n 0, 1) := by decide +kernel
theorem dL_497 : decode code 497 = .ok (.iload_n 3, 1) := by decide +kernel
theorem dL_498 : decode code 498 = .ok (.iconst 2, 1) := by decide +kernel
theorem dL_499 : decode code 499 = .ok (.iadd, 1) := by decide +kernel
theorem dL_500 : decode code 500 = .ok (.iaload, 1) := by decide +kernel
theorem dL_501 : decode code 501 = .ok (.aload_n 0, 1) := by decide +kernel
theorem dL_502 : decode code 502 = .ok (.iload_n 3, 1) := by decide +kernel
theorem dL_503 : decode code 503 = .ok (.iconst 3, 1) := by decide +kernel
theorem dL_504 : decode code 504 = .ok (.iadd, 1) := by decide +kernel
theorem dL_505 : decode code 505 = .ok (.iaload, 1) := by decide +kernel
theorem dL_506 : decode code 506 = .ok (.invokevirtual 48, 3) := by decide +kernel
theorem dL_509 : decode code 509 = .ok (.if_icmp .eq 823, 3) := by decide +kernel
theorem dL_512 : decode code 512 = .ok (.iconst 0, 1) := by decide +kernel
theorem dL_513 : decode code 513 = .ok (.ireturn, 1) := by decide +kernel
theorem dL_514 : decode code 514 = .ok (.aload_n 1, 1) := by decide +kernel
theorem dL_515 : decode code 515 = .ok (.aload_n 0, 1) := by decide +kernel
theorem dL_516 : decode code 516 = .ok (.iload_n 3, 1) := by decide +kernel
theorem dL_517 : decode code 517 = .ok (.iconst 1, 1) := by decide +kernel
theorem dL_518 : decode code 518 = .ok (.iadd, 1) := by decide +kernel
theorem dL_519 : decode code 519 = .ok (.iaload, 1) := by decide +kernel
theorem dL_520 : decode code 520 = .ok (.invokevirtual 49, 3) := by decide +kernel
theorem dL_523 : decode code 523 = .ok (.aload_n 2, 1) := by decide +kernel
theorem dL_524 : decode code 524 = .ok (.aload_n 0, 1) := by decide +kernel
theorem dL_525 : decode code 525 = .ok (.iload_n 3, 1) := by decide +kernel
theorem dL_526 : decode code 526 = .ok (.iconst 1, 1) := by decide +kernel
theorem dL_527 : decode code 527 = .ok (.iadd, 1) := by decide +kernel
theorem dL_528 : decode code 528 = .ok (.iaload, 1) := by decide +kernel
theorem dL_529 : decode code 529 = .ok (.invokevirtual 52, 3) := by decide +kernel
theorem dL_532 : decode code 532 = .ok (.if_icmp .eq 800, 3) := by decide +kernel
theorem dL_535 : decode code 535 = .ok (.iconst 0, 1) := by decide +kernel
theorem dL_536 : decode code 536 = .ok (.ireturn, 1) := by decide +kernel
theorem dL_537 : decode code 537 = .ok (.aload_n 1, 1) := by decide +kernel
theorem dL_538 : decode code 538 = .ok (.aload_n 0, 1) := by decide +kernel
theorem dL_539 : decode code 539 = .ok (.iload_n 3, 1) := by decide +kernel
theorem dL_540 : decode code 540 = .ok (.iconst 1, 1) := by decide +kernel
theorem dL_541 : decode code 541 = .ok (.iadd, 1) := by decide +kernel
theorem dL_542 : decode code 542 = .ok (.iaload, 1) := by decide +kernel
theorem dL_543 : decode code 543 = .ok (.invokevirtual 53, 3) := by decide +kernel
theorem dL_546 : decode code 546 = .ok (.aload_n 2, 1) := by decide +kernel
theorem dL_547 : decode code 547 = .ok (.aload_n 0, 1) := by decide +kernel
theorem dL_548 : decode code 548 = .ok (.iload_n 3, 1) := by decide +kernel
theorem dL_549 : decode code 549 = .ok (.iconst 1, 1) := by decide +kernel
theorem dL_550 : decode code 550 = .ok (.iadd, 1) := by decide +kernel
theorem dL_551 : decode code 551 = .ok (.iaload, 1) := by decide +kernel
theorem dL_552 : decode code 552 = .ok (.invokevirtual 56, 3) := by decide +kernel
theorem dL_555 : decode code 555 = .ok (.if_icmp .eq 777, 3) := by decide +kernel
theorem dL_558 : decode code 558 = .ok (.iconst 0, 1) := by decide +kernel
theorem dL_559 : decode code 559 = .ok (.ireturn, 1) := by decide +kernel
theorem dL_560 : decode code 560 = .ok (.aload_n 1, 1) := by decide +kernel
theorem dL_561 : decode code 561 = .ok (.aload_n 0, 1) := by decide +kernel
theorem dL_562 : decode code 562 = .ok (.iload_n 3, 1) := by decide +kernel
theorem dL_563 : decode code 563 = .ok (.iconst 1, 1) := by decide +kernel
theorem dL_564 : decode code 564 = .ok (.iadd, 1) := by decide +kernel
theorem dL_565 : decode code 565 = .ok (.iaload, 1) := by decide +kernel
theorem dL_566 : decode code 566 = .ok (.aload_n 0, 1) := by decide +kernel
theorem dL_567 : decode code 567 = .ok (.iload_n 3, 1) := by decide +kernel
theorem dL_568 : decode code 568 = .ok (.iconst 2, 1) := by decide +kernel
theorem dL_569 : decode code 569 = .ok (.iadd, 1) := by decide +kernel
theorem dL_570 : decode code 570 = .ok (.iaload, 1) := by decide +kernel
theorem dL_571 : decode code 571 = .ok (.invokevirtual 57, 3) := by decide +kernel
theorem dL_574 : decode code 574 = .ok (.aload_n 2, 1) := by decide +kernel
theorem dL_575 : decode code 575 = .ok (.aload_n 0, 1) := by decide +kernel
theorem dL_576 : decode code 576 = .ok (.iload_n 3, 1) := by decide +kernel
theorem dL_577 : decode code 577 = .ok (.iconst 1, 1) := by decide +kernel
theorem dL_578 : decode code 578 = .ok (.iadd, 1) := by decide +kernel
theorem dL_579 : decode code 579 = .ok (.iaload, 1) := by decide +kernel
theorem dL_580 : decode code 580 = .ok (.aload_n 0, 1) := by decide +kernel
theorem dL_581 : decode code 581 = .ok (.iload_n 3, 1) := by decide +kernel
theorem dL_582 : decode code 582 = .ok (.iconst 2, 1) := by decide +kernel
theorem dL_583 : decode code 583 = .ok (.iadd, 1) := by decide +kernel
theorem dL_584 : decode code 584 = .ok (.iaload, 1) := by decide +kernel
theorem dL_585 : decode code 585 = .ok (.invokevirtual 60, 3) := by decide +kernel
theorem dL_588 : decode code 588 = .ok (.if_icmp .eq 744, 3) := by decide +kernel
theorem dL_591 : decode code 591 = .ok (.iconst 0, 1) := by decide +kernel
theorem dL_592 : decode code 592 = .ok (.ireturn, 1) := by decide +kernel
theorem dL_593 : decode code 593 = .ok (.aload_n 1, 1) := by decide +kernel
theorem dL_594 : decode code 594 = .ok (.aload_n 0, 1) := by decide +kernel
theorem dL_595 : decode code 595 = .ok (.iload_n 3, 1) := by decide +kernel
theorem dL_596 : decode code 596 = .ok (.iconst 1, 1) := by decide +kernel
theorem dL_597 : decode code 597 = .ok (.iadd, 1) := by decide +kernel
theorem dL_598 : decode code 598 = .ok (.iaload, 1) := by decide +kernel
theorem dL_599 : decode code 599 = .ok (.aload_n 0, 1) := by decide +kernel
theorem dL_600 : decode code 600 = .ok (.iload_n 3, 1) := by decide +kernel
theorem dL_601 : decode code 601 = .ok (.iconst 2, 1) := by decide +kernel
theorem dL_602 : decode code 602 = .ok (.iadd, 1) := by decide +kernel
theorem dL_603 : decode code 603 = .ok (.iaload, 1) := by decide +kernel
theorem dL_604 : decode code 604 = .ok (.invokevirtual 61, 3) := by decide +kernel
theorem dL_607 : decode code 607 = .ok (.aload_n 2, 1) := by decide +kernel
theorem dL_608 : decode code 608 = .ok (.aload_n 0, 1) := by decide +kernel
theorem dL_609 : decode code 609 = .ok (.iload_n 3, 1) := by decide +kernel
theorem dL_610 : decode code 610 = .ok (.iconst 1, 1) := by decide +kernel
theorem dL_611 : decode code 611 = .ok (.iadd, 1) := by decide +kernel
theorem dL_612 : decode code 612 = .ok (.iaload, 1) := by decide +kernel
theorem dL_613 : decode code 613 = .ok (.aload_n 0, 1) := by decide +kernel
theorem dL_614 : decode code 614 = .ok (.iload_n 3, 1) := by decide +kernel
theorem dL_615 : decode code 615 = .ok (.iconst 2, 1) := by decide +kernel
theorem dL_616 : decode code 616 = .ok (.iadd, 1) := by decide +kernel
theorem dL_617 : decode code 617 = .ok (.iaload, 1) := by decide +kernel
theorem dL_618 : decode code 618 = .ok (.invokevirtual 64, 3) := by decide +kernel
theorem dL_621 : decode code 621 = .ok (.if_icmp .eq 711, 3) := by decide +kernel
theorem dL_624 : decode code 624 = .ok (.iconst 0, 1) := by decide +kernel
theorem dL_625 : decode code 625 = .ok (.ireturn, 1) := by decide +kernel
theorem dL_626 : decode code 626 = .ok (.aload_n 1, 1) := by decide +kernel
theorem dL_627 : decode code 627 = .ok (.aload_n 0, 1) := by decide +kernel
theorem dL_628 : decode code 628 = .ok (.iload_n 3, 1) := by decide +kernel
theorem dL_629 : decode code 629 = .ok (.iconst 1, 1) := by decide +kernel
theorem dL_630 : decode code 630 = .ok (.iadd, 1) := by decide +kernel
theorem dL_631 : decode code 631 = .ok (.iaload, 1) := by decide +kernel
theorem dL_632 : decode code 632 = .ok (.invokevirtual 65, 3) := by decide +kernel
theorem dL_635 : decode code 635 = .ok (.aload_n 2, 1) := by decide +kernel
theorem dL_636 : decode code 636 = .ok (.aload_n 0, 1) := by decide +kernel
theorem dL_637 : decode code 637 = .ok (.iload_n 3, 1) := by decide +kernel
theorem dL_638 : decode code 638 = .ok (.iconst 1, 1) := by decide +kernel
theorem dL_639 : decode code 639 = .ok (.iadd, 1) := by decide +kernel
theorem dL_640 : decode code 640 = .ok (.iaload, 1) := by decide +kernel
theorem dL_641 : decode code 641 = .ok (.invokevirtual 68, 3) := by decide +kernel
theorem dL_644 : decode code 644 = .ok (.if_icmp .eq 688, 3) := by decide +kernel
theorem dL_647 : decode code 647 = .ok (.iconst 0, 1) := by decide +kernel
theorem dL_648 : decode code 648 = .ok (.ireturn, 1) := by decide +kernel
theorem dL_649 : decode code 649 = .ok (.aload_n 1, 1) := by decide +kernel
theorem dL_650 : decode code 650 = .ok (.invokevirtual 69, 3) := by decide +kernel
theorem dL_653 : decode code 653 = .ok (.aload_n 2, 1) := by decide +kernel
theorem dL_654 : decode code 654 = .ok (.invokevirtual 73, 3) := by decide +kernel
theorem dL_657 : decode code 657 = .ok (.if_icmp .eq 675, 3) := by decide +kernel
theorem dL_660 : decode code 660 = .ok (.iconst 0, 1) := by decide +kernel
theorem dL_661 : decode code 661 = .ok (.ireturn, 1) := by decide +kernel
theorem dL_662 : decode code 662 = .ok (.aload_n 1, 1) := by decide +kernel
theorem dL_663 : decode code 663 = .ok (.aload_n 0, 1) := by decide +kernel
theorem dL_664 : decode code 664 = .ok (.iload_n 3, 1) := by decide +kernel
theorem dL_665 : decode code 665 = .ok (.iconst 1, 1) := by decide +kernel
theorem dL_666 : decode code 666 = .ok (.iadd, 1) := by decide +kernel
theorem dL_667 : decode code 667 = .ok (.iaload, 1) := by decide +kernel
theorem dL_668 : decode code 668 = .ok (.invokevirtual 74, 3) := by decide +kernel
theorem dL_671 : decode code 671 = .ok (.aload_n 2, 1) := by decide +kernel
theorem dL_672 : decode code 672 = .ok (.aload_n 0, 1) := by decide +kernel
theorem dL_673 : decode code 673 = .ok (.iload_n 3, 1) := by decide +kernel
theorem dL_674 : decode code 674 = .ok (.iconst 1, 1) := by decide +kernel
theorem dL_675 : decode code 675 = .ok (.iadd, 1) := by decide +kernel
theorem dL_676 : decode code 676 = .ok (.iaload, 1) := by decide +kernel
theorem dL_677 : decode code 677 = .ok (.invokevirtual 77, 3) := by decide +kernel
theorem dL_680 : decode code 680 = .ok (.if_icmp .eq 652, 3) := by decide +kernel
theorem dL_683 : decode code 683 = .ok (.iconst 0, 1) := by decide +kernel
theorem dL_684 : decode code 684 = .ok (.ireturn, 1) := by decide +kernel
theorem dL_685 : decode code 685 = .ok (.aload_n 1, 1) := by decide +kernel
theorem dL_686 : decode code 686 = .ok (.aload_n 0, 1) := by decide +kernel
theorem dL_687 : decode code 687 = .ok (.iload_n 3, 1) := by decide +kernel
theorem dL_688 : decode code 688 = .ok (.iconst 1, 1) := by decide +kernel
theorem dL_689 : decode code 689 = .ok (.iadd, 1) := by decide +kernel
theorem dL_690 : decode code 690 = .ok (.iaload, 1) := by decide +kernel
theorem dL_691 : decode code 691 = .ok (.invokevirtual 78, 3) := by decide +kernel
theorem dL_694 : decode code 694 = .ok (.aload_n 2, 1) := by decide +kernel
theorem dL_695 : decode code 695 = .ok (.aload_n 0, 1) := by decide +kernel
theorem dL_696 : decode code 696 = .ok (.iload_n 3, 1) := by decide +kernel
theorem dL_697 : decode code 697 = .ok (.iconst 1, 1) := by decide +kernel
theorem dL_698 : decode code 698 = .ok (.iadd, 1) := by decide +kernel
theorem dL_699 : decode code 699 = .ok (.iaload, 1) := by decide +kernel
theorem dL_700 : decode code 700 = .ok (.invokevirtual 81, 3) := by decide +kernel
theorem dL_703 : decode code 703 = .ok (.if_icmp .eq 629, 3) := by decide +kernel
theorem dL_706 : decode code 706 = .ok (.iconst 0, 1) := by decide +kernel
theorem dL_707 : decode code 707 = .ok (.ireturn, 1) := by decide +kernel
theorem dL_708 : decode code 708 = .ok (.aload_n 1, 1) := by decide +kernel
theorem dL_709 : decode code 709 = .ok (.aload_n 0, 1) := by decide +kernel
theorem dL_710 : decode code 710 = .ok (.iload_n 3, 1) := by decide +kernel
theorem dL_711 : decode code 711 = .ok (.iconst 1, 1) := by decide +kernel
theorem dL_712 : decode code 712 = .ok (.iadd, 1) := by decide +kernel
theorem dL_713 : decode code 713 = .ok (.iaload, 1) := by decide +kernel
theorem dL_714 : decode code 714 = .ok (.aload_n 0, 1) := by decide +kernel
theorem dL_715 : decode code 715 = .ok (.iload_n 3, 1) := by decide +kernel
theorem dL_716 : decode code 716 = .ok (.iconst 2, 1) := by decide +kernel
theorem dL_717 : decode code 717 = .ok (.iadd, 1) := by decide +kernel
theorem dL_718 : decode code 718 = .ok (.iaload, 1) := by decide +kernel
theorem dL_719 : decode code 719 = .ok (.invokevirtual 82, 3) := by decide +kernel
theorem dL_722 : decode code 722 = .ok (.aload_n 2, 1) := by decide +kernel
theorem dL_723 : decode code 723 = .ok (.aload_n 0, 1) := by decide +kernel
theorem dL_724 : decode code 724 = .ok (.iload_n 3, 1) := by decide +kernel
theorem dL_725 : decode code 725 = .ok (.iconst 1, 1) := by decide +kernel
theorem dL_726 : decode code 726 = .ok (.iadd, 1) := by decide +kernel
theorem dL_727 : decode code 727 = .ok (.iaload, 1) := by decide +kernel
theorem dL_728 : decode code 728 = .ok (.aload_n 0, 1) := by decide +kernel
theorem dL_729 : decode code 729 = .ok (.iload_n 3, 1) := by decide +kernel
theorem dL_730 : decode code 730 = .ok (.iconst 2, 1) := by decide +kernel
theorem dL_731 : decode code 731 = .ok (.iadd, 1) := by decide +kernel
theorem dL_732 : decode code 732 = .ok (.iaload, 1) := by decide +kernel
theorem dL_733 : decode code 733 = .ok (.invokevirtual 85, 3) := by decide +kernel
theorem dL_736 : decode code 736 = .ok (.if_icmp .eq 596, 3) := by decide +kernel
theorem dL_739 : decode code 739 = .ok (.iconst 0, 1) := by decide +kernel
theorem dL_740 : decode code 740 = .ok (.ireturn, 1) := by decide +kernel
theorem dL_741 : decode code 741 = .ok (.aload_n 1, 1) := by decide +kernel
theorem dL_742 : decode code 742 = .ok (.aload_n 0, 1) := by decide +kernel
theorem dL_743 : decode code 743 = .ok (.iload_n 3, 1) := by decide +kernel
theorem dL_744 : decode code 744 = .ok (.iconst 1, 1) := by decide +kernel
theorem dL_745 : decode code 745 = .ok (.iadd, 1) := by decide +kernel
theorem dL_746 : decode code 746 = .ok (.iaload, 1) := by decide +kernel
theorem dL_747 : decode code 747 = .ok (.invokevirtual 86, 3) := by decide +kernel
theorem dL_750 : decode code 750 = .ok (.aload_n 2, 1) := by decide +kernel
theorem dL_751 : decode code 751 = .ok (.aload_n 0, 1) := by decide +kernel
theorem dL_752 : decode code 752 = .ok (.iload_n 3, 1) := by decide +kernel
theorem dL_753 : decode code 753 = .ok (.iconst 1, 1) := by decide +kernel
theorem dL_754 : decode code 754 = .ok (.iadd, 1) := by decide +kernel
theorem dL_755 : decode code 755 = .ok (.iaload, 1) := by decide +kernel
theorem dL_756 : decode code 756 = .ok (.invokevirtual 89, 3) := by decide +kernel
theorem dL_759 : decode code 759 = .ok (.if_icmp .eq 573, 3) := by decide +kernel
theorem dL_762 : decode code 762 = .ok (.iconst 0, 1) := by decide +kernel
theorem dL_763 : decode code 763 = .ok (.ireturn, 1) := by decide +kernel
theorem dL_764 : decode code 764 = .ok (.aload_n 1, 1) := by decide +kernel
theorem dL_765 : decode code 765 = .ok (.aload_n 0, 1) := by decide +kernel
theorem dL_766 : decode code 766 = .ok (.iload_n 3, 1) := by decide +kernel
theorem dL_767 : decode code 767 = .ok (.iconst 1, 1) := by decide +kernel
theorem dL_768 : decode code 768 = .ok (.iadd, 1) := by decide +kernel
theorem dL_769 : decode code 769 = .ok (.iaload, 1) := by decide +kernel
theorem dL_770 : decode code 770 = .ok (.invokevirtual 90, 3) := by decide +kernel
theorem dL_773 : decode code 773 = .ok (.aload_n 2, 1) := by decide +kernel
theorem dL_774 : decode code 774 = .ok (.aload_n 0, 1) := by decide +kernel
theorem dL_775 : decode code 775 = .ok (.iload_n 3, 1) := by decide +kernel
theorem dL_776 : decode code 776 = .ok (.iconst 1, 1) := by decide +kernel
theorem dL_777 : decode code 777 = .ok (.iadd, 1) := by decide +kernel
theorem dL_778 : decode code 778 = .ok (.iaload, 1) := by decide +kernel
theorem dL_779 : decode code 779 = .ok (.invokevirtual 93, 3) := by decide +kernel
theorem dL_782 : decode code 782 = .ok (.if_icmp .eq 550, 3) := by decide +kernel
theorem dL_785 : decode code 785 = .ok (.iconst 0, 1) := by decide +kernel
theorem dL_786 : decode code 786 = .ok (.ireturn, 1) := by decide +kernel
theorem dL_787 : decode code 787 = .ok (.aload_n 1, 1) := by decide +kernel
theorem dL_788 : decode code 788 = .ok (.aload_n 0, 1) := by decide +kernel
theorem dL_789 : decode code 789 = .ok (.iload_n 3, 1) := by decide +kernel
theorem dL_790 : decode code 790 = .ok (.iconst 1, 1) := by decide +kernel
theorem dL_791 : decode code 791 = .ok (.iadd, 1) := by decide +kernel
theorem dL_792 : decode code 792 = .ok (.iaload, 1) := by decide +kernel
theorem dL_793 : decode code 793 = .ok (.invokevirtual 94, 3) := by decide +kernel
theorem dL_796 : decode code 796 = .ok (.aload_n 2, 1) := by decide +kernel
theorem dL_797 : decode code 797 = .ok (.aload_n 0, 1) := by decide +kernel
theorem dL_798 : decode code 798 = .ok (.iload_n 3, 1) := by decide +kernel
theorem dL_799 : decode code 799 = .ok (.iconst 1, 1) := by decide +kernel
theorem dL_800 : decode code 800 = .ok (.iadd, 1) := by decide +kernel
theorem dL_801 : decode code 801 = .ok (.iaload, 1) := by decide +kernel
theorem dL_802 : decode code 802 = .ok (.invokevirtual 97, 3) := by decide +kernel
theorem dL_805 : decode code 805 = .ok (.if_icmp .eq 527, 3) := by decide +kernel
theorem dL_808 : decode code 808 = .ok (.iconst 0, 1) := by decide +kernel
theorem dL_809 : decode code 809 = .ok (.ireturn, 1) := by decide +kernel
theorem dL_810 : decode code 810 = .ok (.aload_n 1, 1) := by decide +kernel
theorem dL_811 : decode code 811 = .ok (.aload_n 0, 1) := by decide +kernel
theorem dL_812 : decode code 812 = .ok (.iload_n 3, 1) := by decide +kernel
theorem dL_813 : decode code 813 = .ok (.iconst 1, 1) := by decide +kernel
theorem dL_814 : decode code 814 = .ok (.iadd, 1) := by decide +kernel
theorem dL_815 : decode code 815 = .ok (.iaload, 1) := by decide +kernel
theorem dL_816 : decode code 816 = .ok (.invokevirtual 98, 3) := by decide +kernel
theorem dL_819 : decode code 819 = .ok (.aload_n 2, 1) := by decide +kernel
theorem dL_820 : decode code 820 = .ok (.aload_n 0, 1) := by decide +kernel
theorem dL_821 : decode code 821 = .ok (.iload_n 3, 1) := by decide +kernel
theorem dL_822 : decode code 822 = .ok (.iconst 1, 1) := by decide +kernel
theorem dL_823 : decode code 823 = .ok (.iadd, 1) := by decide +kernel
theorem dL_824 : decode code 824 = .ok (.iaload, 1) := by decide +kernel
theorem dL_825 : decode code 825 = .ok (.invokevirtual 101, 3) := by decide +kernel
theorem dL_828 : decode code 828 = .ok (.if_icmp .eq 504, 3) := by decide +kernel
theorem dL_831 : decode code 831 = .ok (.iconst 0, 1) := by decide +kernel
theorem dL_832 : decode code 832 = .ok (.ireturn, 1) := by decide +kernel
theorem dL_833 : decode code 833 = .ok (.aload_n 1, 1) := by decide +kernel
theorem dL_834 : decode code 834 = .ok (.invokevirtual 102, 3) := by decide +kernel
theorem dL_837 : decode code 837 = .ok (.aload_n 2, 1) := by decide +kernel
theorem dL_838 : decode code 838 = .ok (.invokevirtual 105, 3) := by decide +kernel
theorem dL_841 : decode code 841 = .ok (.if_icmp .eq 491, 3) := by decide +kernel
theorem dL_844 : decode code 844 = .ok (.iconst 0, 1) := by decide +kernel
theorem dL_845 : decode code 845 = .ok (.ireturn, 1) := by decide +kernel
theorem dL_846 : decode code 846 = .ok (.aload_n 1, 1) := by decide +kernel
theorem dL_847 : decode code 847 = .ok (.aload_n 0, 1) := by decide +kernel
theorem dL_848 : decode code 848 = .ok (.iload_n 3, 1) := by decide +kernel
theorem dL_849 : decode code 849 = .ok (.iconst 1, 1) := by decide +kernel
theorem dL_850 : decode code 850 = .ok (.iadd, 1) := by decide +kernel
theorem dL_851 : decode code 851 = .ok (.iaload, 1) := by decide +kernel
theorem dL_852 : decode code 852 = .ok (.aload_n 0, 1) := by decide +kernel
theorem dL_853 : decode code 853 = .ok (.iload_n 3, 1) := by decide +kernel
theorem dL_854 : decode code 854 = .ok (.iconst 2, 1) := by decide +kernel
theorem dL_855 : decode code 855 = .ok (.iadd, 1) := by decide +kernel
theorem dL_856 : decode code 856 = .ok (.iaload, 1) := by decide +kernel
theorem dL_857 : decode code 857 = .ok (.invokevirtual 106, 3) := by decide +kernel
theorem dL_860 : decode code 860 = .ok (.aload_n 2, 1) := by decide +kernel
theorem dL_861 : decode code 861 = .ok (.aload_n 0, 1) := by decide +kernel
theorem dL_862 : decode code 862 = .ok (.iload_n 3, 1) := by decide +kernel
theorem dL_863 : decode code 863 = .ok (.iconst 1, 1) := by decide +kernel
theorem dL_864 : decode code 864 = .ok (.iadd, 1) := by decide +kernel
theorem dL_865 : decode code 865 = .ok (.iaload, 1) := by decide +kernel
theorem dL_866 : decode code 866 = .ok (.aload_n 0, 1) := by decide +kernel
theorem dL_867 : decode code 867 = .ok (.iload_n 3, 1) := by decide +kernel
theorem dL_868 : decode code 868 = .ok (.iconst 2, 1) := by decide +kernel
theorem dL_869 : decode code 869 = .ok (.iadd, 1) := by decide +kernel
theorem dL_870 : decode code 870 = .ok (.iaload, 1) := by decide +kernel
theorem dL_871 : decode code 871 = .ok (.invokevirtual 109, 3) := by decide +kernel
theorem dL_874 : decode code 874 = .ok (.if_icmp .eq 458, 3) := by decide +kernel
theorem dL_877 : decode code 877 = .ok (.iconst 0, 1) := by decide +kernel
theorem dL_878 : decode code 878 = .ok (.ireturn, 1) := by decide +kernel
theorem dL_879 : decode code 879 = .ok (.aload_n 1, 1) := by decide +kernel
theorem dL_880 : decode code 880 = .ok (.aload_n 0, 1) := by decide +kernel
theorem dL_881 : decode code 881 = .ok (.iload_n 3, 1) := by decide +kernel
theorem dL_882 : decode code 882 = .ok (.iconst 1, 1) := by decide +kernel
theorem dL_883 : decode code 883 = .ok (.iadd, 1) := by decide +kernel
theorem dL_884 : decode code 884 = .ok (.iaload, 1) := by decide +kernel
theorem dL_885 : decode code 885 = .ok (.invokevirtual 110, 3) := by decide +kernel
theorem dL_888 : decode code 888 = .ok (.aload_n 2, 1) := by decide +kernel
theorem dL_889 : decode code 889 = .ok (.aload_n 0, 1) := by decide +kernel
theorem dL_890 : decode code 890 = .ok (.iload_n 3, 1) := by decide +kernel
theorem dL_891 : decode code 891 = .ok (.iconst 1, 1) := by decide +kernel
theorem dL_892 : decode code 892 = .ok (.iadd, 1) := by decide +kernel
theorem dL_893 : decode code 893 = .ok (.iaload, 1) := by decide +kernel
theorem dL_894 : decode code 894 = .ok (.invokevirtual 113, 3) := by decide +kernel
theorem dL_897 : decode code 897 = .ok (.if_icmp .eq 435, 3) := by decide +kernel
theorem dL_900 : decode code 900 = .ok (.iconst 0, 1) := by decide +kernel
theorem dL_901 : decode code 901 = .ok (.ireturn, 1) := by decide +kernel
theorem dL_902 : decode code 902 = .ok (.aload_n 1, 1) := by decide +kernel
theorem dL_903 : decode code 903 = .ok (.invokevirtual 114, 3) := by decide +kernel
theorem dL_906 : decode code 906 = .ok (.aload_n 2, 1) := by decide +kernel
theorem dL_907 : decode code 907 = .ok (.invokevirtual 117, 3) := by decide +kernel
theorem dL_910 : decode code 910 = .ok (.if_icmp .eq 422, 3) := by decide +kernel
theorem dL_913 : decode code 913 = .ok (.iconst 0, 1) := by decide +kernel
theorem dL_914 : decode code 914 = .ok (.ireturn, 1) := by decide +kernel
theorem dL_915 : decode code 915 = .ok (.aload_n 1, 1) := by decide +kernel
theorem dL_916 : decode code 916 = .ok (.aload_n 0, 1) := by decide +kernel
theorem dL_917 : decode code 917 = .ok (.iload_n 3, 1) := by decide +kernel
theorem dL_918 : decode code 918 = .ok (.iconst 1, 1) := by decide +kernel
theorem dL_919 : decode code 919 = .ok (.iadd, 1) := by decide +kernel
theorem dL_920 : decode code 920 = .ok (.iaload, 1) := by decide +kernel
theorem dL_921 : decode code 921 = .ok (.invokevirtual 118, 3) := by decide +kernel
theorem dL_924 : decode code 924 = .ok (.aload_n 2, 1) := by decide +kernel
theorem dL_925 : decode code 925 = .ok (.aload_n 0, 1) := by decide +kernel
theorem dL_926 : decode code 926 = .ok (.iload_n 3, 1) := by decide +kernel
theorem dL_927 : decode code 927 = .ok (.iconst 1, 1) := by decide +kernel
theorem dL_928 : decode code 928 = .ok (.iadd, 1) := by decide +kernel
theorem dL_929 : decode code 929 = .ok (.iaload, 1) := by decide +kernel
theorem dL_930 : decode code 930 = .ok (.invokevirtual 121, 3) := by decide +kernel
theorem dL_933 : decode code 933 = .ok (.if_icmp .eq 399, 3) := by decide +kernel
theorem dL_936 : decode code 936 = .ok (.iconst 0, 1) := by decide +kernel
theorem dL_937 : decode code 937 = .ok (.ireturn, 1) := by decide +kernel
theorem dL_938 : decode code 938 = .ok (.aload_n 1, 1) := by decide +kernel
theorem dL_939 : decode code 939 = .ok (.aload_n 0, 1) := by decide +kernel
theorem dL_940 : decode code 940 = .ok (.iload_n 3, 1) := by decide +kernel
theorem dL_941 : decode code 941 = .ok (.iconst 1, 1) := by decide +kernel
theorem dL_942 : decode code 942 = .ok (.iadd, 1) := by decide +kernel
theorem dL_943 : decode code 943 = .ok (.iaload, 1) := by decide +kernel
theorem dL_944 : decode code 944 = .ok (.invokevirtual 122, 3) := by decide +kernel
theorem dL_947 : decode code 947 = .ok (.aload_n 2, 1) := by decide +kernel
theorem dL_948 : decode code 948 = .ok (.aload_n 0, 1) := by decide +kernel
theorem dL_949 : decode code 949 = .ok (.iload_n 3, 1) := by decide +kernel
theorem dL_950 : decode code 950 = .ok (.iconst 1, 1) := by decide +kernel
theorem dL_951 : decode code 951 = .ok (.iadd, 1) := by decide +kernel
theorem dL_952 : decode code 952 = .ok (.iaload, 1) := by decide +kernel
theorem dL_953 : decode code 953 = .ok (.invokevirtual 125, 3) := by decide +kernel
theorem dL_956 : decode code 956 = .ok (.if_icmp .eq 376, 3) := by decide +kernel
theorem dL_959 : decode code 959 = .ok (.iconst 0, 1) := by decide +kernel
theorem dL_960 : decode code 960 = .ok (.ireturn, 1) := by decide +kernel
theorem dL_961 : decode code 961 = .ok (.aload_n 1, 1) := by decide +kernel
theorem dL_962 : decode code 962 = .ok (.aload_n 0, 1) := by decide +kernel
theorem dL_963 : decode code 963 = .ok (.iload_n 3, 1) := by decide +kernel
theorem dL_964 : decode code 964 = .ok (.iconst 1, 1) := by decide +kernel
theorem dL_965 : decode code 965 = .ok (.iadd, 1) := by decide +kernel
theorem dL_966 : decode code 966 = .ok (.iaload, 1) := by decide +kernel
theorem dL_967 : decode code 967 = .ok (.aload_n 0, 1) := by decide +kernel
theorem dL_968 : decode code 968 = .ok (.iload_n 3, 1) := by decide +kernel
theorem dL_969 : decode code 969 = .ok (.iconst 2, 1) := by decide +kernel
theorem dL_970 : decode code 970 = .ok (.iadd, 1) := by decide +kernel
theorem dL_971 : decode code 971 = .ok (.iaload, 1) := by decide +kernel
theorem dL_972 : decode code 972 = .ok (.invokevirtual 126, 3) := by decide +kernel
theorem dL_975 : decode code 975 = .ok (.aload_n 2, 1) := by decide +kernel
theorem dL_976 : decode code 976 = .ok (.aload_n 0, 1) := by decide +kernel
theorem dL_977 : decode code 977 = .ok (.iload_n 3, 1) := by decide +kernel
theorem dL_978 : decode code 978 = .ok (.iconst 1, 1) := by decide +kernel
theorem dL_979 : decode code 979 = .ok (.iadd, 1) := by decide +kernel
theorem dL_980 : decode code 980 = .ok (.iaload, 1) := by decide +kernel
theorem dL_981 : decode code 981 = .ok (.aload_n 0, 1) := by decide +kernel
theorem dL_982 : decode code 982 = .ok (.iload_n 3, 1) := by decide +kernel
theorem dL_983 : decode code 983 = .ok (.iconst 2, 1) := by decide +kernel
theorem dL_984 : decode code 984 = .ok (.iadd, 1) := by decide +kernel
theorem dL_985 : decode code 985 = .ok (.iaload, 1) := by decide +kernel
theorem dL_986 : decode code 986 = .ok (.invokevirtual 129, 3) := by decide +kernel
theorem dL_989 : decode code 989 = .ok (.if_icmp .eq 343, 3) := by decide +kernel
theorem dL_992 : decode code 992 = .ok (.iconst 0, 1) := by decide +kernel
theorem dL_993 : decode code 993 = .ok (.ireturn, 1) := by decide +kernel
theorem dL_994 : decode code 994 = .ok (.aload_n 1, 1) := by decide +kernel
theorem dL_995 : decode code 995 = .ok (.aload_n 0, 1) := by decide +kernel
theorem dL_996 : decode code 996 = .ok (.iload_n 3, 1) := by decide +kernel
theorem dL_997 : decode code 997 = .ok (.iconst 1, 1) := by decide +kernel
theorem dL_998 : decode code 998 = .ok (.iadd, 1) := by decide +kernel
theorem dL_999 : decode code 999 = .ok (.iaload, 1) := by decide +kernel
theorem dL_1000 : decode code 1000 = .ok (.invokevirtual 130, 3) := by decide +kernel
theorem dL_1003 : decode code 1003 = .ok (.aload_n 2, 1) := by decide +kernel
theorem dL_1004 : decode code 1004 = .ok (.aload_n 0, 1) := by decide +kernel
theorem dL_1005 : decode code 1005 = .ok (.iload_n 3, 1) := by decide +kernel
theorem dL_1006 : decode code 1006 = .ok (.iconst 1, 1) := by decide +kernel
theorem dL_1007 : decode code 1007 = .ok (.iadd, 1) := by decide +kernel
theorem dL_1008 : decode code 1008 = .ok (.iaload, 1) := by decide +kernel
theorem dL_1009 : decode code 1009 = .ok (.invokevirtual 133, 3) := by decide +kernel
theorem dL_1012 : decode code 1012 = .ok (.if_icmp .eq 320, 3) := by decide +kernel
theorem dL_1015 : decode code 1015 = .ok (.iconst 0, 1) := by decide +kernel
theorem dL_1016 : decode code 1016 = .ok (.ireturn, 1) := by decide +kernel
theorem dL_1017 : decode code 1017 = .ok (.aload_n 1, 1) := by decide +kernel
theorem dL_1018 : decode code 1018 = .ok (.aload_n 0, 1) := by decide +kernel
theorem dL_1019 : decode code 1019 = .ok (.iload_n 3, 1) := by decide +kernel
theorem dL_1020 : decode code 1020 = .ok (.iconst 1, 1) := by decide +kernel
theorem dL_1021 : decode code 1021 = .ok (.iadd, 1) := by decide +kernel
theorem dL_1022 : decode code 1022 = .ok (.iaload, 1) := by decide +kernel
theorem dL_1023 : decode code 1023 = .ok (.invokevirtual 134, 3) := by decide +kernel
theorem dL_1026 : decode code 1026 = .ok (.aload_n 2, 1) := by decide +kernel
theorem dL_1027 : decode code 1027 = .ok (.aload_n 0, 1) := by decide +kernel
theorem dL_1028 : decode code 1028 = .ok (.iload_n 3, 1) := by decide +kernel
theorem dL_1029 : decode code 1029 = .ok (.iconst 1, 1) := by decide +kernel
theorem dL_1030 : decode code 1030 = .ok (.iadd, 1) := by decide +kernel
theorem dL_1031 : decode code 1031 = .ok (.iaload, 1) := by decide +kernel
theorem dL_1032 : decode code 1032 = .ok (.invokevirtual 137, 3) := by decide +kernel
theorem dL_1035 : decode code 1035 = .ok (.if_icmp .eq 297, 3) := by decide +kernel
theorem dL_1038 : decode code 1038 = .ok (.iconst 0, 1) := by decide +kernel
theorem dL_1039 : decode code 1039 = .ok (.ireturn, 1) := by decide +kernel
theorem dL_1040 : decode code 1040 = .ok (.aload_n 1, 1) := by decide +kernel
theorem dL_1041 : decode code 1041 = .ok (.aload_n 0, 1) := by decide +kernel
theorem dL_1042 : decode code 1042 = .ok (.iload_n 3, 1) := by decide +kernel
theorem dL_1043 : decode code 1043 = .ok (.iconst 1, 1) := by decide +kernel
theorem dL_1044 : decode code 1044 = .ok (.iadd, 1) := by decide +kernel
theorem dL_1045 : decode code 1045 = .ok (.iaload, 1) := by decide +kernel
theorem dL_1046 : decode code 1046 = .ok (.aload_n 0, 1) := by decide +kernel
theorem dL_1047 : decode code 1047 = .ok (.iload_n 3, 1) := by decide +kernel
theorem dL_1048 : decode code 1048 = .ok (.iconst 2, 1) := by decide +kernel
theorem dL_1049 : decode code 1049 = .ok (.iadd, 1) := by decide +kernel
theorem dL_1050 : decode code 1050 = .ok (.iaload, 1) := by decide +kernel
theorem dL_1051 : decode code 1051 = .ok (.invokevirtual 138, 3) := by decide +kernel
theorem dL_1054 : decode code 1054 = .ok (.aload_n 2, 1) := by decide +kernel
theorem dL_1055 : decode code 1055 = .ok (.aload_n 0, 1) := by decide +kernel
theorem dL_1056 : decode code 1056 = .ok (.iload_n 3, 1) := by decide +kernel
theorem dL_1057 : decode code 1057 = .ok (.iconst 1, 1) := by decide +kernel
theorem dL_1058 : decode code 1058 = .ok (.iadd, 1) := by decide +kernel
theorem dL_1059 : decode code 1059 = .ok (.iaload, 1) := by decide +kernel
theorem dL_1060 : decode code 1060 = .ok (.aload_n 0, 1) := by decide +kernel
theorem dL_1061 : decode code 1061 = .ok (.iload_n 3, 1) := by decide +kernel
theorem dL_1062 : decode code 1062 = .ok (.iconst 2, 1) := by decide +kernel
theorem dL_1063 : decode code 1063 = .ok (.iadd, 1) := by decide +kernel
theorem dL_1064 : decode code 1064 = .ok (.iaload, 1) := by decide +kernel
theorem dL_1065 : decode code 1065 = .ok (.invokevirtual 141, 3) := by decide +kernel
theorem dL_1068 : decode code 1068 = .ok (.if_icmp .eq 264, 3) := by decide +kernel
theorem dL_1071 : decode code 1071 = .ok (.iconst 0, 1) := by decide +kernel
theorem dL_1072 : decode code 1072 = .ok (.ireturn, 1) := by decide +kernel
theorem dL_1073 : decode code 1073 = .ok (.aload_n 1, 1) := by decide +kernel
theorem dL_1074 : decode code 1074 = .ok (.aload_n 0, 1) := by decide +kernel
theorem dL_1075 : decode code 1075 = .ok (.iload_n 3, 1) := by decide +kernel
theorem dL_1076 : decode code 1076 = .ok (.iconst 1, 1) := by decide +kernel
theorem dL_1077 : decode code 1077 = .ok (.iadd, 1) := by decide +kernel
theorem dL_1078 : decode code 1078 = .ok (.iaload, 1) := by decide +kernel
theorem dL_1079 : decode code 1079 = .ok (.aload_n 0, 1) := by decide +kernel
theorem dL_1080 : decode code 1080 = .ok (.iload_n 3, 1) := by decide +kernel
theorem dL_1081 : decode code 1081 = .ok (.iconst 2, 1) := by decide +kernel
theorem dL_1082 : decode code 1082 = .ok (.iadd, 1) := by decide +kernel
theorem dL_1083 : decode code 1083 = .ok (.iaload, 1) := by decide +kernel
theorem dL_1084 : decode code 1084 = .ok (.invokevirtual 142, 3) := by decide +kernel
theorem dL_1087 : decode code 1087 = .ok (.aload_n 2, 1) := by decide +kernel
theorem dL_1088 : decode code 1088 = .ok (.aload_n 0, 1) := by decide +kernel
theorem dL_1089 : decode code 1089 = .ok (.iload_n 3, 1) := by decide +kernel
theorem dL_1090 : decode code 1090 = .ok (.iconst 1, 1) := by decide +kernel
theorem dL_1091 : decode code 1091 = .ok (.iadd, 1) := by decide +kernel
theorem dL_1092 : decode code 1092 = .ok (.iaload, 1) := by decide +kernel
theorem dL_1093 : decode code 1093 = .ok (.aload_n 0, 1) := by decide +kernel
theorem dL_1094 : decode code 1094 = .ok (.iload_n 3, 1) := by decide +kernel
theorem dL_1095 : decode code 1095 = .ok (.iconst 2, 1) := by decide +kernel
theorem dL_1096 : decode code 1096 = .ok (.iadd, 1) := by decide +kernel
theorem dL_1097 : decode code 1097 = .ok (.iaload, 1) := by decide +kernel
theorem dL_1098 : decode code 1098 = .ok (.invokevirtual 145, 3) := by decide +kernel
theorem dL_1101 : decode code 1101 = .ok (.if_icmp .eq 231, 3) := by decide +kernel
theorem dL_1104 : decode code 1104 = .ok (.iconst 0, 1) := by decide +kernel
theorem dL_1105 : decode code 1105 = .ok (.ireturn, 1) := by decide +kernel
theorem dL_1106 : decode code 1106 = .ok (.aload_n 1, 1) := by decide +kernel
theorem dL_1107 : decode code 1107 = .ok (.aload_n 0, 1) := by decide +kernel
theorem dL_1108 : decode code 1108 = .ok (.iload_n 3, 1) := by decide +kernel
theorem dL_1109 : decode code 1109 = .ok (.iconst 1, 1) := by decide +kernel
theorem dL_1110 : decode code 1110 = .ok (.iadd, 1) := by decide +kernel
theorem dL_1111 : decode code 1111 = .ok (.iaload, 1) := by decide +kernel
theorem dL_1112 : decode code 1112 = .ok (.invokevirtual 146, 3) := by decide +kernel
theorem dL_1115 : decode code 1115 = .ok (.aload_n 2, 1) := by decide +kernel
theorem dL_1116 : decode code 1116 = .ok (.aload_n 0, 1) := by decide +kernel
theorem dL_1117 : decode code 1117 = .ok (.iload_n 3, 1) := by decide +kernel
theorem dL_1118 : decode code 1118 = .ok (.iconst 1, 1) := by decide +kernel
theorem dL_1119 : decode code 1119 = .ok (.iadd, 1) := by decide +kernel
theorem dL_1120 : decode code 1120 = .ok (.iaload, 1) := by decide +kernel
theorem dL_1121 : decode code 1121 = .ok (.invokevirtual 149, 3) := by decide +kernel
theorem dL_1124 : decode code 1124 = .ok (.if_icmp .eq 208, 3) := by decide +kernel
theorem dL_1127 : decode code 1127 = .ok (.iconst 0, 1) := by decide +kernel
theorem dL_1128 : decode code 1128 = .ok (.ireturn, 1) := by decide +kernel
theorem dL_1129 : decode code 1129 = .ok (.aload_n 1, 1) := by decide +kernel
theorem dL_1130 : decode code 1130 = .ok (.aload_n 0, 1) := by decide +kernel
theorem dL_1131 : decode code 1131 = .ok (.iload_n 3, 1) := by decide +kernel
theorem dL_1132 : decode code 1132 = .ok (.iconst 1, 1) := by decide +kernel
theorem dL_1133 : decode code 1133 = .ok (.iadd, 1) := by decide +kernel
theorem dL_1134 : decode code 1134 = .ok (.iaload, 1) := by decide +kernel
theorem dL_1135 : decode code 1135 = .ok (.aload_n 0, 1) := by decide +kernel
theorem dL_1136 : decode code 1136 = .ok (.iload_n 3, 1) := by decide +kernel
theorem dL_1137 : decode code 1137 = .ok (.iconst 2, 1) := by decide +kernel
theorem dL_1138 : decode code 1138 = .ok (.iadd, 1) := by decide +kernel
theorem dL_1139 : decode code 1139 = .ok (.iaload, 1) := by decide +kernel
theorem dL_1140 : decode code 1140 = .ok (.invokevirtual 150, 3) := by decide +kernel
theorem dL_1143 : decode code 1143 = .ok (.aload_n 2, 1) := by decide +kernel
theorem dL_1144 : decode code 1144 = .ok (.aload_n 0, 1) := by decide +kernel
theorem dL_1145 : decode code 1145 = .ok (.iload_n 3, 1) := by decide +kernel
theorem dL_1146 : decode code 1146 = .ok (.iconst 1, 1) := by decide +kernel
theorem dL_1147 : decode code 1147 = .ok (.iadd, 1) := by decide +kernel
theorem dL_1148 : decode code 1148 = .ok (.iaload, 1) := by decide +kernel
theorem dL_1149 : decode code 1149 = .ok (.aload_n 0, 1) := by decide +kernel
theorem dL_1150 : decode code 1150 = .ok (.iload_n 3, 1) := by decide +kernel
theorem dL_1151 : decode code 1151 = .ok (.iconst 2, 1) := by decide +kernel
theorem dL_1152 : decode code 1152 = .ok (.iadd, 1) := by decide +kernel
theorem dL_1153 : decode code 1153 = .ok (.iaload, 1) := by decide +kernel
theorem dL_1154 : decode code 1154 = .ok (.invokevirtual 153, 3) := by decide +kernel
theorem dL_1157 : decode code 1157 = .ok (.if_icmp .eq 175, 3) := by decide +kernel
theorem dL_1160 : decode code 1160 = .ok (.iconst 0, 1) := by decide +kernel
theorem dL_1161 : decode code 1161 = .ok (.ireturn, 1) := by decide +kernel
theorem dL_1162 : decode code 1162 = .ok (.aload_n 1, 1) := by decide +kernel
theorem dL_1163 : decode code 1163 = .ok (.aload_n 0, 1) := by decide +kernel
theorem dL_1164 : decode code 1164 = .ok (.iload_n 3, 1) := by decide +kernel
theorem dL_1165 : decode code 1165 = .ok (.iconst 1, 1) := by decide +kernel
theorem dL_1166 : decode code 1166 = .ok (.iadd, 1) := by decide +kernel
theorem dL_1167 : decode code 1167 = .ok (.iaload, 1) := by decide +kernel
theorem dL_1168 : decode code 1168 = .ok (.invokevirtual 154, 3) := by decide +kernel
theorem dL_1171 : decode code 1171 = .ok (.aload_n 2, 1) := by decide +kernel
theorem dL_1172 : decode code 1172 = .ok (.aload_n 0, 1) := by decide +kernel
theorem dL_1173 : decode code 1173 = .ok (.iload_n 3, 1) := by decide +kernel
theorem dL_1174 : decode code 1174 = .ok (.iconst 1, 1) := by decide +kernel
theorem dL_1175 : decode code 1175 = .ok (.iadd, 1) := by decide +kernel
theorem dL_1176 : decode code 1176 = .ok (.iaload, 1) := by decide +kernel
theorem dL_1177 : decode code 1177 = .ok (.invokevirtual 157, 3) := by decide +kernel
theorem dL_1180 : decode code 1180 = .ok (.if_icmp .eq 152, 3) := by decide +kernel
theorem dL_1183 : decode code 1183 = .ok (.iconst 0, 1) := by decide +kernel
theorem dL_1184 : decode code 1184 = .ok (.ireturn, 1) := by decide +kernel
theorem dL_1185 : decode code 1185 = .ok (.aload_n 1, 1) := by decide +kernel
theorem dL_1186 : decode code 1186 = .ok (.aload_n 0, 1) := by decide +kernel
theorem dL_1187 : decode code 1187 = .ok (.iload_n 3, 1) := by decide +kernel
theorem dL_1188 : decode code 1188 = .ok (.iconst 1, 1) := by decide +kernel
theorem dL_1189 : decode code 1189 = .ok (.iadd, 1) := by decide +kernel
theorem dL_1190 : decode code 1190 = .ok (.iaload, 1) := by decide +kernel
theorem dL_1191 : decode code 1191 = .ok (.aload_n 0, 1) := by decide +kernel
theorem dL_1192 : decode code 1192 = .ok (.iload_n 3, 1) := by decide +kernel
theorem dL_1193 : decode code 1193 = .ok (.iconst 2, 1) := by decide +kernel
theorem dL_1194 : decode code 1194 = .ok (.iadd, 1) := by decide +kernel
theorem dL_1195 : decode code 1195 = .ok (.iaload, 1) := by decide +kernel
theorem dL_1196 : decode code 1196 = .ok (.invokevirtual 158, 3) := by decide +kernel
theorem dL_1199 : decode code 1199 = .ok (.aload_n 2, 1) := by decide +kernel
theorem dL_1200 : decode code 1200 = .ok (.aload_n 0, 1) := by decide +kernel
theorem dL_1201 : decode code 1201 = .ok (.iload_n 3, 1) := by decide +kernel
theorem dL_1202 : decode code 1202 = .ok (.iconst 1, 1) := by decide +kernel
theorem dL_1203 : decode code 1203 = .ok (.iadd, 1) := by decide +kernel
theorem dL_1204 : decode code 1204 = .ok (.iaload, 1) := by decide +kernel
theorem dL_1205 : decode code 1205 = .ok (.aload_n 0, 1) := by decide +kernel
theorem dL_1206 : decode code 1206 = .ok (.iload_n 3, 1) := by decide +kernel
theorem dL_1207 : decode code 1207 = .ok (.iconst 2, 1) := by decide +kernel
theorem dL_1208 : decode code 1208 = .ok (.iadd, 1) := by decide +kernel
theorem dL_1209 : decode code 1209 = .ok (.iaload, 1) := by decide +kernel
theorem dL_1210 : decode code 1210 = .ok (.invokevirtual 161, 3) := by decide +kernel
theorem dL_1213 : decode code 1213 = .ok (.if_icmp .eq 119, 3) := by decide +kernel
theorem dL_1216 : decode code 1216 = .ok (.iconst 0, 1) := by decide +kernel
theorem dL_1217 : decode code 1217 = .ok (.ireturn, 1) := by decide +kernel
theorem dL_1218 : decode code 1218 = .ok (.aload_n 1, 1) := by decide +kernel
theorem dL_1219 : decode code 1219 = .ok (.invokevirtual 162, 3) := by decide +kernel
theorem dL_1222 : decode code 1222 = .ok (.aload_n 2, 1) := by decide +kernel
theorem dL_1223 : decode code 1223 = .ok (.invokevirtual 165, 3) := by decide +kernel
theorem dL_1226 : decode code 1226 = .ok (.if_icmp .eq 106, 3) := by decide +kernel
theorem dL_1229 : decode code 1229 = .ok (.iconst 0, 1) := by decide +kernel
theorem dL_1230 : decode code 1230 = .ok (.ireturn, 1) := by decide +kernel
theorem dL_1231 : decode code 1231 = .ok (.aload_n 1, 1) := by decide +kernel
theorem dL_1232 : decode code 1232 = .ok (.invokevirtual 166, 3) := by decide +kernel
theorem dL_1235 : decode code 1235 = .ok (.aload_n 2, 1) := by decide +kernel
theorem dL_1236 : decode code 1236 = .ok (.invokevirtual 170, 3) := by decide +kernel
theorem dL_1239 : decode code 1239 = .ok (.lcmp, 1) := by decide +kernel
theorem dL_1240 : decode code 1240 = .ok (.ifCond .eq 92, 3) := by decide +kernel
theorem dL_1243 : decode code 1243 = .ok (.iconst 0, 1) := by decide +kernel
theorem dL_1244 : decode code 1244 = .ok (.ireturn, 1) := by decide +kernel
theorem dL_1245 : decode code 1245 = .ok (.aload_n 1, 1) := by decide +kernel
theorem dL_1246 : decode code 1246 = .ok (.invokevirtual 171, 3) := by decide +kernel
theorem dL_1249 : decode code 1249 = .ok (.aload_n 2, 1) := by decide +kernel
theorem dL_1250 : decode code 1250 = .ok (.invokevirtual 174, 3) := by decide +kernel
theorem dL_1253 : decode code 1253 = .ok (.lcmp, 1) := by decide +kernel
theorem dL_1254 : decode code 1254 = .ok (.ifCond .eq 78, 3) := by decide +kernel
theorem dL_1257 : decode code 1257 = .ok (.iconst 0, 1) := by decide +kernel
theorem dL_1258 : decode code 1258 = .ok (.ireturn, 1) := by decide +kernel
theorem dL_1259 : decode code 1259 = .ok (.aload_n 1, 1) := by decide +kernel
theorem dL_1260 : decode code 1260 = .ok (.aload_n 0, 1) := by decide +kernel
theorem dL_1261 : decode code 1261 = .ok (.iload_n 3, 1) := by decide +kernel
theorem dL_1262 : decode code 1262 = .ok (.iconst 1, 1) := by decide +kernel
theorem dL_1263 : decode code 1263 = .ok (.iadd, 1) := by decide +kernel
theorem dL_1264 : decode code 1264 = .ok (.iaload, 1) := by decide +kernel
theorem dL_1265 : decode code 1265 = .ok (.invokevirtual 175, 3) := by decide +kernel
theorem dL_1268 : decode code 1268 = .ok (.aload_n 2, 1) := by decide +kernel
theorem dL_1269 : decode code 1269 = .ok (.aload_n 0, 1) := by decide +kernel
theorem dL_1270 : decode code 1270 = .ok (.iload_n 3, 1) := by decide +kernel
theorem dL_1271 : decode code 1271 = .ok (.iconst 1, 1) := by decide +kernel
theorem dL_1272 : decode code 1272 = .ok (.iadd, 1) := by decide +kernel
theorem dL_1273 : decode code 1273 = .ok (.iaload, 1) := by decide +kernel
theorem dL_1274 : decode code 1274 = .ok (.invokevirtual 178, 3) := by decide +kernel
theorem dL_1277 : decode code 1277 = .ok (.if_icmp .eq 55, 3) := by decide +kernel
theorem dL_1280 : decode code 1280 = .ok (.iconst 0, 1) := by decide +kernel
theorem dL_1281 : decode code 1281 = .ok (.ireturn, 1) := by decide +kernel
theorem dL_1282 : decode code 1282 = .ok (.aload_n 1, 1) := by decide +kernel
theorem dL_1283 : decode code 1283 = .ok (.invokevirtual 179, 3) := by decide +kernel
theorem dL_1286 : decode code 1286 = .ok (.aload_n 2, 1) := by decide +kernel
theorem dL_1287 : decode code 1287 = .ok (.invokevirtual 182, 3) := by decide +kernel
theorem dL_1290 : decode code 1290 = .ok (.if_icmp .eq 42, 3) := by decide +kernel
theorem dL_1293 : decode code 1293 = .ok (.iconst 0, 1) := by decide +kernel
theorem dL_1294 : decode code 1294 = .ok (.ireturn, 1) := by decide +kernel
theorem dL_1295 : decode code 1295 = .ok (.aload_n 1, 1) := by decide +kernel
theorem dL_1296 : decode code 1296 = .ok (.aload_n 0, 1) := by decide +kernel
theorem dL_1297 : decode code 1297 = .ok (.iload_n 3, 1) := by decide +kernel
theorem dL_1298 : decode code 1298 = .ok (.iconst 1, 1) := by decide +kernel
theorem dL_1299 : decode code 1299 = .ok (.iadd, 1) := by decide +kernel
theorem dL_1300 : decode code 1300 = .ok (.iaload, 1) := by decide +kernel
theorem dL_1301 : decode code 1301 = .ok (.invokevirtual 183, 3) := by decide +kernel
theorem dL_1304 : decode code 1304 = .ok (.aload_n 2, 1) := by decide +kernel
theorem dL_1305 : decode code 1305 = .ok (.aload_n 0, 1) := by decide +kernel
theorem dL_1306 : decode code 1306 = .ok (.iload_n 3, 1) := by decide +kernel
theorem dL_1307 : decode code 1307 = .ok (.iconst 1, 1) := by decide +kernel
theorem dL_1308 : decode code 1308 = .ok (.iadd, 1) := by decide +kernel
theorem dL_1309 : decode code 1309 = .ok (.iaload, 1) := by decide +kernel
theorem dL_1310 : decode code 1310 = .ok (.invokevirtual 186, 3) := by decide +kernel
theorem dL_1313 : decode code 1313 = .ok (.if_icmp .eq 19, 3) := by decide +kernel
theorem dL_1316 : decode code 1316 = .ok (.iconst 0, 1) := by decide +kernel
theorem dL_1317 : decode code 1317 = .ok (.ireturn, 1) := by decide +kernel
theorem dL_1318 : decode code 1318 = .ok (.aload_n 1, 1) := by decide +kernel
theorem dL_1319 : decode code 1319 = .ok (.invokevirtual 187, 3) := by decide +kernel
theorem dL_1322 : decode code 1322 = .ok (.aload_n 2, 1) := by decide +kernel
theorem dL_1323 : decode code 1323 = .ok (.invokevirtual 190, 3) := by decide +kernel
theorem dL_1326 : decode code 1326 = .ok (.lcmp, 1) := by decide +kernel
theorem dL_1327 : decode code 1327 = .ok (.ifCond .eq 5, 3) := by decide +kernel
theorem dL_1330 : decode code 1330 = .ok (.iconst 0, 1) := by decide +kernel
theorem dL_1331 : decode code 1331 = .ok (.ireturn, 1) := by decide +kernel
theorem dL_1332 : decode code 1332 = .ok (.iinc 3 6, 3) := by decide +kernel
theorem dL_1335 : decode code 1335 = .ok (.goto (-1317), 3) := by decide +kernel
theorem dL_1338 : decode code 1338 = .ok (.iconst 1, 1) := by decide +kernel
theorem dL_1339 : decode code 1339 = .ok (.ireturn, 1) := by decide +kernel
