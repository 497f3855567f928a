/-! the law's cases: one theorem for each of the 38 calls -/
theorem dL_0 : decode code 0 = .ok (.new 7, 3) := by decide +kernel
theorem dL_3 : decode code 3 = .ok (.dup, 1) := by decide +kernel
theorem dL_4 : decode code 4 = .ok (.invokespecial 9, 3) := by decide +kernel
theorem dL_7 : decode code 7 = .ok (.astore_n 1, 1) := by decide +kernel
theorem dL_8 : decode code 8 = .ok (.new 10, 3) := by decide +kernel
theorem dL_11 : decode code 11 = .ok (.dup, 1) := by decide +kernel
theorem dL_12 : decode code 12 = .ok (.invokespecial 12, 3) := by decide +kernel
theorem dL_15 : decode code 15 = .ok (.astore_n 2, 1) := by decide +kernel
theorem dL_16 : decode code 16 = .ok (.iconst 0, 1) := by decide +kernel
theorem dL_17 : decode code 17 = .ok (.istore_n 3, 1) := by decide +kernel
theorem dL_18 : decode code 18 = .ok (.iload_n 3, 1) := by decide +kernel
theorem dL_19 : decode code 19 = .ok (.aload_n 0, 1) := by decide +kernel
theorem dL_20 : decode code 20 = .ok (.arraylength, 1) := by decide +kernel
theorem dL_21 : decode code 21 = .ok (.iconst 4, 1) := by decide +kernel
theorem dL_22 : decode code 22 = .ok (.isub, 1) := by decide +kernel
theorem dL_23 : decode code 23 = .ok (.if_icmp .gt 1078, 3) := by decide +kernel
theorem dL_26 : decode code 26 = .ok (.aload_n 0, 1) := by decide +kernel
theorem dL_27 : decode code 27 = .ok (.iload_n 3, 1) := by decide +kernel
theorem dL_28 : decode code 28 = .ok (.iaload, 1) := by decide +kernel
theorem dL_29 : decode code 29 = .ok (.bipush 63, 2) := by decide +kernel
theorem dL_31 : decode code 31 = .ok (.iand, 1) := by decide +kernel
theorem dL_32 : decode code 32 = .ok (.tableswitch 1063 0 37 #[168, 191, 204, 227, 270, 283, 316, 339, 372, 405, 428, 451, 464, 487, 530, 563, 606, 639, 682, 695, 728, 761, 774, 807, 820, 844, 867, 880, 903, 926, 939, 962, 985, 998, 1011, 1024, 1037, 1050], 168) := by decide +kernel
theorem dL_200 : decode code 200 = .ok (.aload_n 1, 1) := by decide +kernel
theorem dL_201 : decode code 201 = .ok (.aload_n 0, 1) := by decide +kernel
theorem dL_202 : decode code 202 = .ok (.iload_n 3, 1) := by decide +kernel
theorem dL_203 : decode code 203 = .ok (.iconst 1, 1) := by decide +kernel
theorem dL_204 : decode code 204 = .ok (.iadd, 1) := by decide +kernel
theorem dL_205 : decode code 205 = .ok (.iaload, 1) := by decide +kernel
theorem dL_206 : decode code 206 = .ok (.invokevirtual 13, 3) := by decide +kernel
theorem dL_209 : decode code 209 = .ok (.aload_n 2, 1) := by decide +kernel
theorem dL_210 : decode code 210 = .ok (.aload_n 0, 1) := by decide +kernel
theorem dL_211 : decode code 211 = .ok (.iload_n 3, 1) := by decide +kernel
theorem dL_212 : decode code 212 = .ok (.iconst 1, 1) := by decide +kernel
theorem dL_213 : decode code 213 = .ok (.iadd, 1) := by decide +kernel
theorem dL_214 : decode code 214 = .ok (.iaload, 1) := by decide +kernel
theorem dL_215 : decode code 215 = .ok (.invokevirtual 17, 3) := by decide +kernel
theorem dL_218 : decode code 218 = .ok (.if_icmp .eq 877, 3) := by decide +kernel
theorem dL_221 : decode code 221 = .ok (.iconst 0, 1) := by decide +kernel
theorem dL_222 : decode code 222 = .ok (.ireturn, 1) := by decide +kernel
theorem dL_223 : decode code 223 = .ok (.aload_n 1, 1) := by decide +kernel
theorem dL_224 : decode code 224 = .ok (.invokevirtual 18, 3) := by decide +kernel
theorem dL_227 : decode code 227 = .ok (.aload_n 2, 1) := by decide +kernel
theorem dL_228 : decode code 228 = .ok (.invokevirtual 22, 3) := by decide +kernel
theorem dL_231 : decode code 231 = .ok (.if_icmp .eq 864, 3) := by decide +kernel
theorem dL_234 : decode code 234 = .ok (.iconst 0, 1) := by decide +kernel
theorem dL_235 : decode code 235 = .ok (.ireturn, 1) := by decide +kernel
theorem dL_236 : decode code 236 = .ok (.aload_n 1, 1) := by decide +kernel
theorem dL_237 : decode code 237 = .ok (.aload_n 0, 1) := by decide +kernel
theorem dL_238 : decode code 238 = .ok (.iload_n 3, 1) := by decide +kernel
theorem dL_239 : decode code 239 = .ok (.iconst 1, 1) := by decide +kernel
theorem dL_240 : decode code 240 = .ok (.iadd, 1) := by decide +kernel
theorem dL_241 : decode code 241 = .ok (.iaload, 1) := by decide +kernel
theorem dL_242 : decode code 242 = .ok (.invokevirtual 23, 3) := by decide +kernel
theorem dL_245 : decode code 245 = .ok (.aload_n 2, 1) := by decide +kernel
theorem dL_246 : decode code 246 = .ok (.aload_n 0, 1) := by decide +kernel
theorem dL_247 : decode code 247 = .ok (.iload_n 3, 1) := by decide +kernel
theorem dL_248 : decode code 248 = .ok (.iconst 1, 1) := by decide +kernel
theorem dL_249 : decode code 249 = .ok (.iadd, 1) := by decide +kernel
theorem dL_250 : decode code 250 = .ok (.iaload, 1) := by decide +kernel
theorem dL_251 : decode code 251 = .ok (.invokevirtual 26, 3) := by decide +kernel
theorem dL_254 : decode code 254 = .ok (.if_icmp .eq 841, 3) := by decide +kernel
theorem dL_257 : decode code 257 = .ok (.iconst 0, 1) := by decide +kernel
theorem dL_258 : decode code 258 = .ok (.ireturn, 1) := by decide +kernel
theorem dL_259 : decode code 259 = .ok (.aload_n 1, 1) := by decide +kernel
theorem dL_260 : decode code 260 = .ok (.aload_n 0, 1) := by decide +kernel
theorem dL_261 : decode code 261 = .ok (.iload_n 3, 1) := by decide +kernel
theorem dL_262 : decode code 262 = .ok (.iconst 1, 1) := by decide +kernel
theorem dL_263 : decode code 263 = .ok (.iadd, 1) := by decide +kernel
theorem dL_264 : decode code 264 = .ok (.iaload, 1) := by decide +kernel
theorem dL_265 : decode code 265 = .ok (.aload_n 0, 1) := by decide +kernel
theorem dL_266 : decode code 266 = .ok (.iload_n 3, 1) := by decide +kernel
theorem dL_267 : decode code 267 = .ok (.iconst 2, 1) := by decide +kernel
theorem dL_268 : decode code 268 = .ok (.iadd, 1) := by decide +kernel
theorem dL_269 : decode code 269 = .ok (.iaload, 1) := by decide +kernel
theorem dL_270 : decode code 270 = .ok (.aload_n 0, 1) := by decide +kernel
theorem dL_271 : decode code 271 = .ok (.iload_n 3, 1) := by decide +kernel
theorem dL_272 : decode code 272 = .ok (.iconst 3, 1) := by decide +kernel
theorem dL_273 : decode code 273 = .ok (.iadd, 1) := by decide +kernel
theorem dL_274 : decode code 274 = .ok (.iaload, 1) := by decide +kernel
theorem dL_275 : decode code 275 = .ok (.invokevirtual 27, 3) := by decide +kernel
theorem dL_278 : decode code 278 = .ok (.aload_n 2, 1) := by decide +kernel
theorem dL_279 : decode code 279 = .ok (.aload_n 0, 1) := by decide +kernel
theorem dL_280 : decode code 280 = .ok (.iload_n 3, 1) := by decide +kernel
theorem dL_281 : decode code 281 = .ok (.iconst 1, 1) := by decide +kernel
theorem dL_282 : decode code 282 = .ok (.iadd, 1) := by decide +kernel
theorem dL_283 : decode code 283 = .ok (.iaload, 1) := by decide +kernel
theorem dL_284 : decode code 284 = .ok (.aload_n 0, 1) := by decide +kernel
theorem dL_285 : decode code 285 = .ok (.iload_n 3, 1) := by decide +kernel
theorem dL_286 : decode code 286 = .ok (.iconst 2, 1) := by decide +kernel
theorem dL_287 : decode code 287 = .ok (.iadd, 1) := by decide +kernel
theorem dL_288 : decode code 288 = .ok (.iaload, 1) := by decide +kernel
theorem dL_289 : decode code 289 = .ok (.aload_n 0, 1) := by decide +kernel
theorem dL_290 : decode code 290 = .ok (.iload_n 3, 1) := by decide +kernel
theorem dL_291 : decode code 291 = .ok (.iconst 3, 1) := by decide +kernel
theorem dL_292 : decode code 292 = .ok (.iadd, 1) := by decide +kernel
theorem dL_293 : decode code 293 = .ok (.iaload, 1) := by decide +kernel
theorem dL_294 : decode code 294 = .ok (.invokevirtual 31, 3) := by decide +kernel
theorem dL_297 : decode code 297 = .ok (.if_icmp .eq 798, 3) := by decide +kernel
theorem dL_300 : decode code 300 = .ok (.iconst 0, 1) := by decide +kernel
theorem dL_301 : decode code 301 = .ok (.ireturn, 1) := by decide +kernel
theorem dL_302 : decode code 302 = .ok (.aload_n 1, 1) := by decide +kernel
theorem dL_303 : decode code 303 = .ok (.invokevirtual 32, 3) := by decide +kernel
theorem dL_306 : decode code 306 = .ok (.aload_n 2, 1) := by decide +kernel
theorem dL_307 : decode code 307 = .ok (.invokevirtual 35, 3) := by decide +kernel
theorem dL_310 : decode code 310 = .ok (.if_icmp .eq 785, 3) := by decide +kernel
theorem dL_313 : decode code 313 = .ok (.iconst 0, 1) := by decide +kernel
theorem dL_314 : decode code 314 = .ok (.ireturn, 1) := by decide +kernel
theorem dL_315 : decode code 315 = .ok (.aload_n 1, 1) := by decide +kernel
theorem dL_316 : decode code 316 = .ok (.aload_n 0, 1) := by decide +kernel
theorem dL_317 : decode code 317 = .ok (.iload_n 3, 1) := by decide +kernel
theorem dL_318 : decode code 318 = .ok (.iconst 1, 1) := by decide +kernel
theorem dL_319 : decode code 319 = .ok (.iadd, 1) := by decide +kernel
theorem dL_320 : decode code 320 = .ok (.iaload, 1) := by decide +kernel
theorem dL_321 : decode code 321 = .ok (.aload_n 0, 1) := by decide +kernel
theorem dL_322 : decode code 322 = .ok (.iload_n 3, 1) := by decide +kernel
theorem dL_323 : decode code 323 = .ok (.iconst 2, 1) := by decide +kernel
theorem dL_324 : decode code 324 = .ok (.iadd, 1) := by decide +kernel
theorem dL_325 : decode code 325 = .ok (.iaload, 1) := by decide +kernel
theorem dL_326 : decode code 326 = .ok (.invokevirtual 36, 3) := by decide +kernel
theorem dL_329 : decode code 329 = .ok (.aload_n 2, 1) := by decide +kernel
theorem dL_330 : decode code 330 = .ok (.aload_n 0, 1) := by decide +kernel
theorem dL_331 : decode code 331 = .ok (.iload_n 3, 1) := by decide +kernel
theorem dL_332 : decode code 332 = .ok (.iconst 1, 1) := by decide +kernel
theorem dL_333 : decode code 333 = .ok (.iadd, 1) := by decide +kernel
theorem dL_334 : decode code 334 = .ok (.iaload, 1) := by decide +kernel
theorem dL_335 : decode code 335 = .ok (.aload_n 0, 1) := by decide +kernel
theorem dL_336 : decode code 336 = .ok (.iload_n 3, 1) := by decide +kernel
theorem dL_337 : decode code 337 = .ok (.iconst 2, 1) := by decide +kernel
theorem dL_338 : decode code 338 = .ok (.iadd, 1) := by decide +kernel
theorem dL_339 : decode code 339 = .ok (.iaload, 1) := by decide +kernel
theorem dL_340 : decode code 340 = .ok (.invokevirtual 40, 3) := by decide +kernel
theorem dL_343 : decode code 343 = .ok (.if_icmp .eq 752, 3) := by decide +kernel
theorem dL_346 : decode code 346 = .ok (.iconst 0, 1) := by decide +kernel
theorem dL_347 : decode code 347 = .ok (.ireturn, 1) := by decide +kernel
theorem dL_348 : decode code 348 = .ok (.aload_n 1, 1) := by decide +kernel
theorem dL_349 : decode code 349 = .ok (.aload_n 0, 1) := by decide +kernel
theorem dL_350 : decode code 350 = .ok (.iload_n 3, 1) := by decide +kernel
theorem dL_351 : decode code 351 = .ok (.iconst 1, 1) := by decide +kernel
theorem dL_352 : decode code 352 = .ok (.iadd, 1) := by decide +kernel
theorem dL_353 : decode code 353 = .ok (.iaload, 1) := by decide +kernel
theorem dL_354 : decode code 354 = .ok (.invokevirtual 41, 3) := by decide +kernel
theorem dL_357 : decode code 357 = .ok (.aload_n 2, 1) := by decide +kernel
theorem dL_358 : decode code 358 = .ok (.aload_n 0, 1) := by decide +kernel
theorem dL_359 : decode code 359 = .ok (.iload_n 3, 1) := by decide +kernel
theorem dL_360 : decode code 360 = .ok (.iconst 1, 1) := by decide +kernel
theorem dL_361 : decode code 361 = .ok (.iadd, 1) := by decide +kernel
theorem dL_362 : decode code 362 = .ok (.iaload, 1) := by decide +kernel
theorem dL_363 : decode code 363 = .ok (.invokevirtual 44, 3) := by decide +kernel
theorem dL_366 : decode code 366 = .ok (.if_icmp .eq 729, 3) := by decide +kernel
theorem dL_369 : decode code 369 = .ok (.iconst 0, 1) := by decide +kernel
theorem dL_370 : decode code 370 = .ok (.ireturn, 1) := by decide +kernel
theorem dL_371 : decode code 371 = .ok (.aload_n 1, 1) := by decide +kernel
theorem dL_372 : decode code 372 = .ok (.aload_n 0, 1) := by decide +kernel
theorem dL_373 : decode code 373 = .ok (.iload_n 3, 1) := by decide +kernel
theorem dL_374 : decode code 374 = .ok (.iconst 1, 1) := by decide +kernel
theorem dL_375 : decode code 375 = .ok (.iadd, 1) := by decide +kernel
theorem dL_376 : decode code 376 = .ok (.iaload, 1) := by decide +kernel
theorem dL_377 : decode code 377 = .ok (.aload_n 0, 1) := by decide +kernel
theorem dL_378 : decode code 378 = .ok (.iload_n 3, 1) := by decide +kernel
theorem dL_379 : decode code 379 = .ok (.iconst 2, 1) := by decide +kernel
theorem dL_380 : decode code 380 = .ok (.iadd, 1) := by decide +kernel
theorem dL_381 : decode code 381 = .ok (.iaload, 1) := by decide +kernel
theorem dL_382 : decode code 382 = .ok (.invokevirtual 45, 3) := by decide +kernel
theorem dL_385 : decode code 385 = .ok (.aload_n 2, 1) := by decide +kernel
theorem dL_386 : decode code 386 = .ok (.aload_n 0, 1) := by decide +kernel
theorem dL_387 : decode code 387 = .ok (.iload_n 3, 1) := by decide +kernel
theorem dL_388 : decode code 388 = .ok (.iconst 1, 1) := by decide +kernel
theorem dL_389 : decode code 389 = .ok (.iadd, 1) := by decide +kernel
theorem dL_390 : decode code 390 = .ok (.iaload, 1) := by decide +kernel
theorem dL_391 : decode code 391 = .ok (.aload_n 0, 1) := by decide +kernel
theorem dL_392 : decode code 392 = .ok (.iload_n 3, 1) := by decide +kernel
theorem dL_393 : decode code 393 = .ok (.iconst 2, 1) := by decide +kernel
theorem dL_394 : decode code 394 = .ok (.iadd, 1) := by decide +kernel
theorem dL_395 : decode code 395 = .ok (.iaload, 1) := by decide +kernel
theorem dL_396 : decode code 396 = .ok (.invokevirtual 48, 3) := by decide +kernel
theorem dL_399 : decode code 399 = .ok (.if_icmp .eq 696, 3) := by decide +kernel
theorem dL_402 : decode code 402 = .ok (.iconst 0, 1) := by decide +kernel
theorem dL_403 : decode code 403 = .ok (.ireturn, 1) := by decide +kernel
theorem dL_404 : decode code 404 = .ok (.aload_n 1, 1) := by decide +kernel
theorem dL_405 : decode code 405 = .ok (.aload_n 0, 1) := by decide +kernel
theorem dL_406 : decode code 406 = .ok (.iload_n 3, 1) := by decide +kernel
theorem dL_407 : decode code 407 = .ok (.iconst 1, 1) := by decide +kernel
theorem dL_408 : decode code 408 = .ok (.iadd, 1) := by decide +kernel
theorem dL_409 : decode code 409 = .ok (.iaload, 1) := by decide +kernel
theorem dL_410 : decode code 410 = .ok (.aload_n 0, 1) := by decide +kernel
theorem dL_411 : decode code 411 = .ok (.iload_n 3, 1) := by decide +kernel
theorem dL_412 : decode code 412 = .ok (.iconst 2, 1) := by decide +kernel
theorem dL_413 : decode code 413 = .ok (.iadd, 1) := by decide +kernel
theorem dL_414 : decode code 414 = .ok (.iaload, 1) := by decide +kernel
theorem dL_415 : decode code 415 = .ok (.invokevirtual 49, 3) := by decide +kernel
theorem dL_418 : decode code 418 = .ok (.aload_n 2, 1) := by decide +kernel
theorem dL_419 : decode code 419 = .ok (.aload_n 0, 1) := by decide +kernel
theorem dL_420 : decode code 420 = .ok (.iload_n 3, 1) := by decide +kernel
theorem dL_421 : decode code 421 = .ok (.iconst 1, 1) := by decide +kernel
theorem dL_422 : decode code 422 = .ok (.iadd, 1) := by decide +kernel
theorem dL_423 : decode code 423 = .ok (.iaload, 1) := by decide +kernel
theorem dL_424 : decode code 424 = .ok (.aload_n 0, 1) := by decide +kernel
theorem dL_425 : decode code 425 = .ok (.iload_n 3, 1) := by decide +kernel
theorem dL_426 : decode code 426 = .ok (.iconst 2, 1) := by decide +kernel
theorem dL_427 : decode code 427 = .ok (.iadd, 1) := by decide +kernel
theorem dL_428 : decode code 428 = .ok (.iaload, 1) := by decide +kernel
theorem dL_429 : decode code 429 = .ok (.invokevirtual 52, 3) := by decide +kernel
theorem dL_432 : decode code 432 = .ok (.if_icmp .eq 663, 3) := by decide +kernel
theorem dL_435 : decode code 435 = .ok (.iconst 0, 1) := by decide +kernel
theorem dL_436 : decode code 436 = .ok (.ireturn, 1) := by decide +kernel
theorem dL_437 : decode code 437 = .ok (.aload_n 1, 1) := by decide +kernel
theorem dL_438 : decode code 438 = .ok (.aload_n 0, 1) := by decide +kernel
theorem dL_439 : decode code 439 = .ok (.iload_n 3, 1) := by decide +kernel
theorem dL_440 : decode code 440 = .ok (.iconst 1, 1) := by decide +kernel
theorem dL_441 : decode code 441 = .ok (.iadd, 1) := by decide +kernel
theorem dL_442 : decode code 442 = .ok (.iaload, 1) := by decide +kernel
theorem dL_443 : decode code 443 = .ok (.invokevirtual 53, 3) := by decide +kernel
theorem dL_446 : decode code 446 = .ok (.aload_n 2, 1) := by decide +kernel
theorem dL_447 : decode code 447 = .ok (.aload_n 0, 1) := by decide +kernel
theorem dL_448 : decode code 448 = .ok (.iload_n 3, 1) := by decide +kernel
theorem dL_449 : decode code 449 = .ok (.iconst 1, 1) := by decide +kernel
theorem dL_450 : decode code 450 = .ok (.iadd, 1) := by decide +kernel
theorem dL_451 : decode code 451 = .ok (.iaload, 1) := by decide +kernel
theorem dL_452 : decode code 452 = .ok (.invokevirtual 56, 3) := by decide +kernel
theorem dL_455 : decode code 455 = .ok (.if_icmp .eq 640, 3) := by decide +kernel
theorem dL_458 : decode code 458 = .ok (.iconst 0, 1) := by decide +kernel
theorem dL_459 : decode code 459 = .ok (.ireturn, 1) := by decide +kernel
theorem dL_460 : decode code 460 = .ok (.aload_n 1, 1) := by decide +kernel
theorem dL_461 : decode code 461 = .ok (.aload_n 0, 1) := by decide +kernel
theorem dL_462 : decode code 462 = .ok (.iload_n 3, 1) := by decide +kernel
theorem dL_463 : decode code 463 = .ok (.iconst 1, 1) := by decide +kernel
theorem dL_464 : decode code 464 = .ok (.iadd, 1) := by decide +kernel
theorem dL_465 : decode code 465 = .ok (.iaload, 1) := by decide +kernel
theorem dL_466 : decode code 466 = .ok (.invokevirtual 57, 3) := by decide +kernel
theorem dL_469 : decode code 469 = .ok (.aload_n 2, 1) := by decide +kernel
theorem dL_470 : decode code 470 = .ok (.aload_n 0, 1) := by decide +kernel
theorem dL_471 : decode code 471 = .ok (.iload_n 3, 1) := by decide +kernel
theorem dL_472 : decode code 472 = .ok (.iconst 1, 1) := by decide +kernel
theorem dL_473 : decode code 473 = .ok (.iadd, 1) := by decide +kernel
theorem dL_474 : decode code 474 = .ok (.iaload, 1) := by decide +kernel
theorem dL_475 : decode code 475 = .ok (.invokevirtual 60, 3) := by decide +kernel
theorem dL_478 : decode code 478 = .ok (.if_icmp .eq 617, 3) := by decide +kernel
theorem dL_481 : decode code 481 = .ok (.iconst 0, 1) := by decide +kernel
theorem dL_482 : decode code 482 = .ok (.ireturn, 1) := by decide +kernel
theorem dL_483 : decode code 483 = .ok (.aload_n 1, 1) := by decide +kernel
theorem dL_484 : decode code 484 = .ok (.invokevirtual 61, 3) := by decide +kernel
theorem dL_487 : decode code 487 = .ok (.aload_n 2, 1) := by decide +kernel
theorem dL_488 : decode code 488 = .ok (.invokevirtual 64, 3) := by decide +kernel
theorem dL_491 : decode code 491 = .ok (.if_icmp .eq 604, 3) := by decide +kernel
theorem dL_494 : decode code 494 = .ok (.iconst 0, 1) := by decide +kernel
theorem dL_495 : decode code 495 = .ok (.ireturn, 1) := by decide +kernel
theorem dL_496 : decode code 496 = .ok (.aload_n 1, 1) := by decide +kernel
theorem dL_497 : decode code 497 = .ok (.aload_n 0, 1) := by decide +kernel
theorem dL_498 : decode code 498 = .ok (.iload_n 3, 1) := by decide +kernel
theorem dL_499 : decode code 499 = .ok (.iconst 1, 1) := by decide +kernel
theorem dL_500 : decode code 500 = .ok (.iadd, 1) := by decide +kernel
theorem dL_501 : decode code 501 = .ok (.iaload, 1) := by decide +kernel
theorem dL_502 : decode code 502 = .ok (.invokevirtual 65, 3) := by decide +kernel
theorem dL_505 : decode code 505 = .ok (.aload_n 2, 1) := by decide +kernel
theorem dL_506 : decode code 506 = .ok (.aload_n 0, 1) := by decide +kernel
theorem dL_507 : decode code 507 = .ok (.iload_n 3, 1) := by decide +kernel
theorem dL_508 : decode code 508 = .ok (.iconst 1, 1) := by decide +kernel
theorem dL_509 : decode code 509 = .ok (.iadd, 1) := by decide +kernel
theorem dL_510 : decode code 510 = .ok (.iaload, 1) := by decide +kernel
theorem dL_511 : decode code 511 = .ok (.invokevirtual 68, 3) := by decide +kernel
theorem dL_514 : decode code 514 = .ok (.if_icmp .eq 581, 3) := by decide +kernel
theorem dL_517 : decode code 517 = .ok (.iconst 0, 1) := by decide +kernel
theorem dL_518 : decode code 518 = .ok (.ireturn, 1) := by decide +kernel
theorem dL_519 : decode code 519 = .ok (.aload_n 1, 1) := by decide +kernel
theorem dL_520 : decode code 520 = .ok (.aload_n 0, 1) := by decide +kernel
theorem dL_521 : decode code 521 = .ok (.iload_n 3, 1) := by decide +kernel
theorem dL_522 : decode code 522 = .ok (.iconst 1, 1) := by decide +kernel
theorem dL_523 : decode code 523 = .ok (.iadd, 1) := by decide +kernel
theorem dL_524 : decode code 524 = .ok (.iaload, 1) := by decide +kernel
theorem dL_525 : decode code 525 = .ok (.aload_n 0, 1) := by decide +kernel
theorem dL_526 : decode code 526 = .ok (.iload_n 3, 1) := by decide +kernel
theorem dL_527 : decode code 527 = .ok (.iconst 2, 1) := by decide +kernel
theorem dL_528 : decode code 528 = .ok (.iadd, 1) := by decide +kernel
theorem dL_529 : decode code 529 = .ok (.iaload, 1) := by decide +kernel
theorem dL_530 : decode code 530 = .ok (.aload_n 0, 1) := by decide +kernel
theorem dL_531 : decode code 531 = .ok (.iload_n 3, 1) := by decide +kernel
theorem dL_532 : decode code 532 = .ok (.iconst 3, 1) := by decide +kernel
theorem dL_533 : decode code 533 = .ok (.iadd, 1) := by decide +kernel
theorem dL_534 : decode code 534 = .ok (.iaload, 1) := by decide +kernel
theorem dL_535 : decode code 535 = .ok (.invokevirtual 69, 3) := by decide +kernel
theorem dL_538 : decode code 538 = .ok (.aload_n 2, 1) := by decide +kernel
theorem dL_539 : decode code 539 = .ok (.aload_n 0, 1) := by decide +kernel
theorem dL_540 : decode code 540 = .ok (.iload_n 3, 1) := by decide +kernel
theorem dL_541 : decode code 541 = .ok (.iconst 1, 1) := by decide +kernel
theorem dL_542 : decode code 542 = .ok (.iadd, 1) := by decide +kernel
theorem dL_543 : decode code 543 = .ok (.iaload, 1) := by decide +kernel
theorem dL_544 : decode code 544 = .ok (.aload_n 0, 1) := by decide +kernel
theorem dL_545 : decode code 545 = .ok (.iload_n 3, 1) := by decide +kernel
theorem dL_546 : decode code 546 = .ok (.iconst 2, 1) := by decide +kernel
theorem dL_547 : decode code 547 = .ok (.iadd, 1) := by decide +kernel
theorem dL_548 : decode code 548 = .ok (.iaload, 1) := by decide +kernel
theorem dL_549 : decode code 549 = .ok (.aload_n 0, 1) := by decide +kernel
theorem dL_550 : decode code 550 = .ok (.iload_n 3, 1) := by decide +kernel
theorem dL_551 : decode code 551 = .ok (.iconst 3, 1) := by decide +kernel
theorem dL_552 : decode code 552 = .ok (.iadd, 1) := by decide +kernel
theorem dL_553 : decode code 553 = .ok (.iaload, 1) := by decide +kernel
theorem dL_554 : decode code 554 = .ok (.invokevirtual 72, 3) := by decide +kernel
theorem dL_557 : decode code 557 = .ok (.if_icmp .eq 538, 3) := by decide +kernel
theorem dL_560 : decode code 560 = .ok (.iconst 0, 1) := by decide +kernel
theorem dL_561 : decode code 561 = .ok (.ireturn, 1) := by decide +kernel
theorem dL_562 : decode code 562 = .ok (.aload_n 1, 1) := by decide +kernel
theorem dL_563 : decode code 563 = .ok (.aload_n 0, 1) := by decide +kernel
theorem dL_564 : decode code 564 = .ok (.iload_n 3, 1) := by decide +kernel
theorem dL_565 : decode code 565 = .ok (.iconst 1, 1) := by decide +kernel
theorem dL_566 : decode code 566 = .ok (.iadd, 1) := by decide +kernel
theorem dL_567 : decode code 567 = .ok (.iaload, 1) := by decide +kernel
theorem dL_568 : decode code 568 = .ok (.aload_n 0, 1) := by decide +kernel
theorem dL_569 : decode code 569 = .ok (.iload_n 3, 1) := by decide +kernel
theorem dL_570 : decode code 570 = .ok (.iconst 2, 1) := by decide +kernel
theorem dL_571 : decode code 571 = .ok (.iadd, 1) := by decide +kernel
theorem dL_572 : decode code 572 = .ok (.iaload, 1) := by decide +kernel
theorem dL_573 : decode code 573 = .ok (.invokevirtual 73, 3) := by decide +kernel
theorem dL_576 : decode code 576 = .ok (.aload_n 2, 1) := by decide +kernel
theorem dL_577 : decode code 577 = .ok (.aload_n 0, 1) := by decide +kernel
theorem dL_578 : decode code 578 = .ok (.iload_n 3, 1) := by decide +kernel
theorem dL_579 : decode code 579 = .ok (.iconst 1, 1) := by decide +kernel
theorem dL_580 : decode code 580 = .ok (.iadd, 1) := by decide +kernel
theorem dL_581 : decode code 581 = .ok (.iaload, 1) := by decide +kernel
theorem dL_582 : decode code 582 = .ok (.aload_n 0, 1) := by decide +kernel
theorem dL_583 : decode code 583 = .ok (.iload_n 3, 1) := by decide +kernel
theorem dL_584 : decode code 584 = .ok (.iconst 2, 1) := by decide +kernel
theorem dL_585 : decode code 585 = .ok (.iadd, 1) := by decide +kernel
theorem dL_586 : decode code 586 = .ok (.iaload, 1) := by decide +kernel
theorem dL_587 : decode code 587 = .ok (.invokevirtual 76, 3) := by decide +kernel
theorem dL_590 : decode code 590 = .ok (.if_icmp .eq 505, 3) := by decide +kernel
theorem dL_593 : decode code 593 = .ok (.iconst 0, 1) := by decide +kernel
theorem dL_594 : decode code 594 = .ok (.ireturn, 1) := by decide +kernel
theorem dL_595 : decode code 595 = .ok (.aload_n 1, 1) := by decide +kernel
theorem dL_596 : decode code 596 = .ok (.aload_n 0, 1) := by decide +kernel
theorem dL_597 : decode code 597 = .ok (.iload_n 3, 1) := by decide +kernel
theorem dL_598 : decode code 598 = .ok (.iconst 1, 1) := by decide +kernel
theorem dL_599 : decode code 599 = .ok (.iadd, 1) := by decide +kernel
theorem dL_600 : decode code 600 = .ok (.iaload, 1) := by decide +kernel
theorem dL_601 : decode code 601 = .ok (.aload_n 0, 1) := by decide +kernel
theorem dL_602 : decode code 602 = .ok (.iload_n 3, 1) := by decide +kernel
theorem dL_603 : decode code 603 = .ok (.iconst 2, 1) := by decide +kernel
theorem dL_604 : decode code 604 = .ok (.iadd, 1) := by decide +kernel
theorem dL_605 : decode code 605 = .ok (.iaload, 1) := by decide +kernel
theorem dL_606 : decode code 606 = .ok (.aload_n 0, 1) := by decide +kernel
theorem dL_607 : decode code 607 = .ok (.iload_n 3, 1) := by decide +kernel
theorem dL_608 : decode code 608 = .ok (.iconst 3, 1) := by decide +kernel
theorem dL_609 : decode code 609 = .ok (.iadd, 1) := by decide +kernel
theorem dL_610 : decode code 610 = .ok (.iaload, 1) := by decide +kernel
theorem dL_611 : decode code 611 = .ok (.invokevirtual 77, 3) := by decide +kernel
theorem dL_614 : decode code 614 = .ok (.aload_n 2, 1) := by decide +kernel
theorem dL_615 : decode code 615 = .ok (.aload_n 0, 1) := by decide +kernel
theorem dL_616 : decode code 616 = .ok (.iload_n 3, 1) := by decide +kernel
theorem dL_617 : decode code 617 = .ok (.iconst 1, 1) := by decide +kernel
theorem dL_618 : decode code 618 = .ok (.iadd, 1) := by decide +kernel
theorem dL_619 : decode code 619 = .ok (.iaload, 1) := by decide +kernel
theorem dL_620 : decode code 620 = .ok (.aload_n 0, 1) := by decide +kernel
theorem dL_621 : decode code 621 = .ok (.iload_n 3, 1) := by decide +kernel
theorem dL_622 : decode code 622 = .ok (.iconst 2, 1) := by decide +kernel
theorem dL_623 : decode code 623 = .ok (.iadd, 1) := by decide +kernel
theorem dL_624 : decode code 624 = .ok (.iaload, 1) := by decide +kernel
theorem dL_625 : decode code 625 = .ok (.aload_n 0, 1) := by decide +kernel
theorem dL_626 : decode code 626 = .ok (.iload_n 3, 1) := by decide +kernel
theorem dL_627 : decode code 627 = .ok (.iconst 3, 1) := by decide +kernel
theorem dL_628 : decode code 628 = .ok (.iadd, 1) := by decide +kernel
theorem dL_629 : decode code 629 = .ok (.iaload, 1) := by decide +kernel
theorem dL_630 : decode code 630 = .ok (.invokevirtual 80, 3) := by decide +kernel
theorem dL_633 : decode code 633 = .ok (.if_icmp .eq 462, 3) := by decide +kernel
theorem dL_636 : decode code 636 = .ok (.iconst 0, 1) := by decide +kernel
theorem dL_637 : decode code 637 = .ok (.ireturn, 1) := by decide +kernel
theorem dL_638 : decode code 638 = .ok (.aload_n 1, 1) := by decide +kernel
theorem dL_639 : decode code 639 = .ok (.aload_n 0, 1) := by decide +kernel
theorem dL_640 : decode code 640 = .ok (.iload_n 3, 1) := by decide +kernel
theorem dL_641 : decode code 641 = .ok (.iconst 1, 1) := by decide +kernel
theorem dL_642 : decode code 642 = .ok (.iadd, 1) := by decide +kernel
theorem dL_643 : decode code 643 = .ok (.iaload, 1) := by decide +kernel
theorem dL_644 : decode code 644 = .ok (.aload_n 0, 1) := by decide +kernel
theorem dL_645 : decode code 645 = .ok (.iload_n 3, 1) := by decide +kernel
theorem dL_646 : decode code 646 = .ok (.iconst 2, 1) := by decide +kernel
theorem dL_647 : decode code 647 = .ok (.iadd, 1) := by decide +kernel
theorem dL_648 : decode code 648 = .ok (.iaload, 1) := by decide +kernel
theorem dL_649 : decode code 649 = .ok (.invokevirtual 81, 3) := by decide +kernel
theorem dL_652 : decode code 652 = .ok (.aload_n 2, 1) := by decide +kernel
theorem dL_653 : decode code 653 = .ok (.aload_n 0, 1) := by decide +kernel
theorem dL_654 : decode code 654 = .ok (.iload_n 3, 1) := by decide +kernel
theorem dL_655 : decode code 655 = .ok (.iconst 1, 1) := by decide +kernel
theorem dL_656 : decode code 656 = .ok (.iadd, 1) := by decide +kernel
theorem dL_657 : decode code 657 = .ok (.iaload, 1) := by decide +kernel
theorem dL_658 : decode code 658 = .ok (.aload_n 0, 1) := by decide +kernel
theorem dL_659 : decode code 659 = .ok (.iload_n 3, 1) := by decide +kernel
theorem dL_660 : decode code 660 = .ok (.iconst 2, 1) := by decide +kernel
theorem dL_661 : decode code 661 = .ok (.iadd, 1) := by decide +kernel
theorem dL_662 : decode code 662 = .ok (.iaload, 1) := by decide +kernel
theorem dL_663 : decode code 663 = .ok (.invokevirtual 84, 3) := by decide +kernel
theorem dL_666 : decode code 666 = .ok (.if_icmp .eq 429, 3) := by decide +kernel
theorem dL_669 : decode code 669 = .ok (.iconst 0, 1) := by decide +kernel
theorem dL_670 : decode code 670 = .ok (.ireturn, 1) := by decide +kernel
theorem dL_671 : decode code 671 = .ok (.aload_n 1, 1) := by decide +kernel
theorem dL_672 : decode code 672 = .ok (.aload_n 0, 1) := by decide +kernel
theorem dL_673 : decode code 673 = .ok (.iload_n 3, 1) := by decide +kernel
theorem dL_674 : decode code 674 = .ok (.iconst 1, 1) := by decide +kernel
theorem dL_675 : decode code 675 = .ok (.iadd, 1) := by decide +kernel
theorem dL_676 : decode code 676 = .ok (.iaload, 1) := by decide +kernel
theorem dL_677 : decode code 677 = .ok (.aload_n 0, 1) := by decide +kernel
theorem dL_678 : decode code 678 = .ok (.iload_n 3, 1) := by decide +kernel
theorem dL_679 : decode code 679 = .ok (.iconst 2, 1) := by decide +kernel
theorem dL_680 : decode code 680 = .ok (.iadd, 1) := by decide +kernel
theorem dL_681 : decode code 681 = .ok (.iaload, 1) := by decide +kernel
theorem dL_682 : decode code 682 = .ok (.aload_n 0, 1) := by decide +kernel
theorem dL_683 : decode code 683 = .ok (.iload_n 3, 1) := by decide +kernel
theorem dL_684 : decode code 684 = .ok (.iconst 3, 1) := by decide +kernel
theorem dL_685 : decode code 685 = .ok (.iadd, 1) := by decide +kernel
theorem dL_686 : decode code 686 = .ok (.iaload, 1) := by decide +kernel
theorem dL_687 : decode code 687 = .ok (.invokevirtual 85, 3) := by decide +kernel
theorem dL_690 : decode code 690 = .ok (.aload_n 2, 1) := by decide +kernel
theorem dL_691 : decode code 691 = .ok (.aload_n 0, 1) := by decide +kernel
theorem dL_692 : decode code 692 = .ok (.iload_n 3, 1) := by decide +kernel
theorem dL_693 : decode code 693 = .ok (.iconst 1, 1) := by decide +kernel
theorem dL_694 : decode code 694 = .ok (.iadd, 1) := by decide +kernel
theorem dL_695 : decode code 695 = .ok (.iaload, 1) := by decide +kernel
theorem dL_696 : decode code 696 = .ok (.aload_n 0, 1) := by decide +kernel
theorem dL_697 : decode code 697 = .ok (.iload_n 3, 1) := by decide +kernel
theorem dL_698 : decode code 698 = .ok (.iconst 2, 1) := by decide +kernel
theorem dL_699 : decode code 699 = .ok (.iadd, 1) := by decide +kernel
theorem dL_700 : decode code 700 = .ok (.iaload, 1) := by decide +kernel
theorem dL_701 : decode code 701 = .ok (.aload_n 0, 1) := by decide +kernel
theorem dL_702 : decode code 702 = .ok (.iload_n 3, 1) := by decide +kernel
theorem dL_703 : decode code 703 = .ok (.iconst 3, 1) := by decide +kernel
theorem dL_704 : decode code 704 = .ok (.iadd, 1) := by decide +kernel
theorem dL_705 : decode code 705 = .ok (.iaload, 1) := by decide +kernel
theorem dL_706 : decode code 706 = .ok (.invokevirtual 88, 3) := by decide +kernel
theorem dL_709 : decode code 709 = .ok (.if_icmp .eq 386, 3) := by decide +kernel
theorem dL_712 : decode code 712 = .ok (.iconst 0, 1) := by decide +kernel
theorem dL_713 : decode code 713 = .ok (.ireturn, 1) := by decide +kernel
theorem dL_714 : decode code 714 = .ok (.aload_n 1, 1) := by decide +kernel
theorem dL_715 : decode code 715 = .ok (.invokevirtual 89, 3) := by decide +kernel
theorem dL_718 : decode code 718 = .ok (.aload_n 2, 1) := by decide +kernel
theorem dL_719 : decode code 719 = .ok (.invokevirtual 92, 3) := by decide +kernel
theorem dL_722 : decode code 722 = .ok (.if_icmp .eq 373, 3) := by decide +kernel
theorem dL_725 : decode code 725 = .ok (.iconst 0, 1) := by decide +kernel
theorem dL_726 : decode code 726 = .ok (.ireturn, 1) := by decide +kernel
theorem dL_727 : decode code 727 = .ok (.aload_n 1, 1) := by decide +kernel
theorem dL_728 : decode code 728 = .ok (.aload_n 0, 1) := by decide +kernel
theorem dL_729 : decode code 729 = .ok (.iload_n 3, 1) := by decide +kernel
theorem dL_730 : decode code 730 = .ok (.iconst 1, 1) := by decide +kernel
theorem dL_731 : decode code 731 = .ok (.iadd, 1) := by decide +kernel
theorem dL_732 : decode code 732 = .ok (.iaload, 1) := by decide +kernel
theorem dL_733 : decode code 733 = .ok (.aload_n 0, 1) := by decide +kernel
theorem dL_734 : decode code 734 = .ok (.iload_n 3, 1) := by decide +kernel
theorem dL_735 : decode code 735 = .ok (.iconst 2, 1) := by decide +kernel
theorem dL_736 : decode code 736 = .ok (.iadd, 1) := by decide +kernel
theorem dL_737 : decode code 737 = .ok (.iaload, 1) := by decide +kernel
theorem dL_738 : decode code 738 = .ok (.invokevirtual 93, 3) := by decide +kernel
theorem dL_741 : decode code 741 = .ok (.aload_n 2, 1) := by decide +kernel
theorem dL_742 : decode code 742 = .ok (.aload_n 0, 1) := by decide +kernel
theorem dL_743 : decode code 743 = .ok (.iload_n 3, 1) := by decide +kernel
theorem dL_744 : decode code 744 = .ok (.iconst 1, 1) := by decide +kernel
theorem dL_745 : decode code 745 = .ok (.iadd, 1) := by decide +kernel
theorem dL_746 : decode code 746 = .ok (.iaload, 1) := by decide +kernel
theorem dL_747 : decode code 747 = .ok (.aload_n 0, 1) := by decide +kernel
theorem dL_748 : decode code 748 = .ok (.iload_n 3, 1) := by decide +kernel
theorem dL_749 : decode code 749 = .ok (.iconst 2, 1) := by decide +kernel
theorem dL_750 : decode code 750 = .ok (.iadd, 1) := by decide +kernel
theorem dL_751 : decode code 751 = .ok (.iaload, 1) := by decide +kernel
theorem dL_752 : decode code 752 = .ok (.invokevirtual 96, 3) := by decide +kernel
theorem dL_755 : decode code 755 = .ok (.if_icmp .eq 340, 3) := by decide +kernel
theorem dL_758 : decode code 758 = .ok (.iconst 0, 1) := by decide +kernel
theorem dL_759 : decode code 759 = .ok (.ireturn, 1) := by decide +kernel
theorem dL_760 : decode code 760 = .ok (.aload_n 1, 1) := by decide +kernel
theorem dL_761 : decode code 761 = .ok (.aload_n 0, 1) := by decide +kernel
theorem dL_762 : decode code 762 = .ok (.iload_n 3, 1) := by decide +kernel
theorem dL_763 : decode code 763 = .ok (.iconst 1, 1) := by decide +kernel
theorem dL_764 : decode code 764 = .ok (.iadd, 1) := by decide +kernel
theorem dL_765 : decode code 765 = .ok (.iaload, 1) := by decide +kernel
theorem dL_766 : decode code 766 = .ok (.aload_n 0, 1) := by decide +kernel
theorem dL_767 : decode code 767 = .ok (.iload_n 3, 1) := by decide +kernel
theorem dL_768 : decode code 768 = .ok (.iconst 2, 1) := by decide +kernel
theorem dL_769 : decode code 769 = .ok (.iadd, 1) := by decide +kernel
theorem dL_770 : decode code 770 = .ok (.iaload, 1) := by decide +kernel
theorem dL_771 : decode code 771 = .ok (.invokevirtual 97, 3) := by decide +kernel
theorem dL_774 : decode code 774 = .ok (.aload_n 2, 1) := by decide +kernel
theorem dL_775 : decode code 775 = .ok (.aload_n 0, 1) := by decide +kernel
theorem dL_776 : decode code 776 = .ok (.iload_n 3, 1) := by decide +kernel
theorem dL_777 : decode code 777 = .ok (.iconst 1, 1) := by decide +kernel
theorem dL_778 : decode code 778 = .ok (.iadd, 1) := by decide +kernel
theorem dL_779 : decode code 779 = .ok (.iaload, 1) := by decide +kernel
theorem dL_780 : decode code 780 = .ok (.aload_n 0, 1) := by decide +kernel
theorem dL_781 : decode code 781 = .ok (.iload_n 3, 1) := by decide +kernel
theorem dL_782 : decode code 782 = .ok (.iconst 2, 1) := by decide +kernel
theorem dL_783 : decode code 783 = .ok (.iadd, 1) := by decide +kernel
theorem dL_784 : decode code 784 = .ok (.iaload, 1) := by decide +kernel
theorem dL_785 : decode code 785 = .ok (.invokevirtual 100, 3) := by decide +kernel
theorem dL_788 : decode code 788 = .ok (.if_icmp .eq 307, 3) := by decide +kernel
theorem dL_791 : decode code 791 = .ok (.iconst 0, 1) := by decide +kernel
theorem dL_792 : decode code 792 = .ok (.ireturn, 1) := by decide +kernel
theorem dL_793 : decode code 793 = .ok (.aload_n 1, 1) := by decide +kernel
theorem dL_794 : decode code 794 = .ok (.invokevirtual 101, 3) := by decide +kernel
theorem dL_797 : decode code 797 = .ok (.aload_n 2, 1) := by decide +kernel
theorem dL_798 : decode code 798 = .ok (.invokevirtual 104, 3) := by decide +kernel
theorem dL_801 : decode code 801 = .ok (.if_icmp .eq 294, 3) := by decide +kernel
theorem dL_804 : decode code 804 = .ok (.iconst 0, 1) := by decide +kernel
theorem dL_805 : decode code 805 = .ok (.ireturn, 1) := by decide +kernel
theorem dL_806 : decode code 806 = .ok (.aload_n 1, 1) := by decide +kernel
theorem dL_807 : decode code 807 = .ok (.aload_n 0, 1) := by decide +kernel
theorem dL_808 : decode code 808 = .ok (.iload_n 3, 1) := by decide +kernel
theorem dL_809 : decode code 809 = .ok (.iconst 1, 1) := by decide +kernel
theorem dL_810 : decode code 810 = .ok (.iadd, 1) := by decide +kernel
theorem dL_811 : decode code 811 = .ok (.iaload, 1) := by decide +kernel
theorem dL_812 : decode code 812 = .ok (.aload_n 0, 1) := by decide +kernel
theorem dL_813 : decode code 813 = .ok (.iload_n 3, 1) := by decide +kernel
theorem dL_814 : decode code 814 = .ok (.iconst 2, 1) := by decide +kernel
theorem dL_815 : decode code 815 = .ok (.iadd, 1) := by decide +kernel
theorem dL_816 : decode code 816 = .ok (.iaload, 1) := by decide +kernel
theorem dL_817 : decode code 817 = .ok (.invokevirtual 105, 3) := by decide +kernel
theorem dL_820 : decode code 820 = .ok (.aload_n 2, 1) := by decide +kernel
theorem dL_821 : decode code 821 = .ok (.aload_n 0, 1) := by decide +kernel
theorem dL_822 : decode code 822 = .ok (.iload_n 3, 1) := by decide +kernel
theorem dL_823 : decode code 823 = .ok (.iconst 1, 1) := by decide +kernel
theorem dL_824 : decode code 824 = .ok (.iadd, 1) := by decide +kernel
theorem dL_825 : decode code 825 = .ok (.iaload, 1) := by decide +kernel
theorem dL_826 : decode code 826 = .ok (.aload_n 0, 1) := by decide +kernel
theorem dL_827 : decode code 827 = .ok (.iload_n 3, 1) := by decide +kernel
theorem dL_828 : decode code 828 = .ok (.iconst 2, 1) := by decide +kernel
theorem dL_829 : decode code 829 = .ok (.iadd, 1) := by decide +kernel
theorem dL_830 : decode code 830 = .ok (.iaload, 1) := by decide +kernel
theorem dL_831 : decode code 831 = .ok (.invokevirtual 108, 3) := by decide +kernel
theorem dL_834 : decode code 834 = .ok (.if_icmp .eq 261, 3) := by decide +kernel
theorem dL_837 : decode code 837 = .ok (.iconst 0, 1) := by decide +kernel
theorem dL_838 : decode code 838 = .ok (.ireturn, 1) := by decide +kernel
theorem dL_839 : decode code 839 = .ok (.aload_n 1, 1) := by decide +kernel
theorem dL_840 : decode code 840 = .ok (.invokevirtual 109, 3) := by decide +kernel
theorem dL_843 : decode code 843 = .ok (.aload_n 2, 1) := by decide +kernel
theorem dL_844 : decode code 844 = .ok (.invokevirtual 112, 3) := by decide +kernel
theorem dL_847 : decode code 847 = .ok (.if_icmp .eq 248, 3) := by decide +kernel
theorem dL_850 : decode code 850 = .ok (.iconst 0, 1) := by decide +kernel
theorem dL_851 : decode code 851 = .ok (.ireturn, 1) := by decide +kernel
theorem dL_852 : decode code 852 = .ok (.aload_n 1, 1) := by decide +kernel
theorem dL_853 : decode code 853 = .ok (.aload_n 0, 1) := by decide +kernel
theorem dL_854 : decode code 854 = .ok (.iload_n 3, 1) := by decide +kernel
theorem dL_855 : decode code 855 = .ok (.iconst 1, 1) := by decide +kernel
theorem dL_856 : decode code 856 = .ok (.iadd, 1) := by decide +kernel
theorem dL_857 : decode code 857 = .ok (.iaload, 1) := by decide +kernel
theorem dL_858 : decode code 858 = .ok (.invokevirtual 113, 3) := by decide +kernel
theorem dL_861 : decode code 861 = .ok (.aload_n 2, 1) := by decide +kernel
theorem dL_862 : decode code 862 = .ok (.aload_n 0, 1) := by decide +kernel
theorem dL_863 : decode code 863 = .ok (.iload_n 3, 1) := by decide +kernel
theorem dL_864 : decode code 864 = .ok (.iconst 1, 1) := by decide +kernel
theorem dL_865 : decode code 865 = .ok (.iadd, 1) := by decide +kernel
theorem dL_866 : decode code 866 = .ok (.iaload, 1) := by decide +kernel
theorem dL_867 : decode code 867 = .ok (.invokevirtual 117, 3) := by decide +kernel
theorem dL_870 : decode code 870 = .ok (.lcmp, 1) := by decide +kernel
theorem dL_871 : decode code 871 = .ok (.ifCond .eq 224, 3) := by decide +kernel
theorem dL_874 : decode code 874 = .ok (.iconst 0, 1) := by decide +kernel
theorem dL_875 : decode code 875 = .ok (.ireturn, 1) := by decide +kernel
theorem dL_876 : decode code 876 = .ok (.aload_n 1, 1) := by decide +kernel
theorem dL_877 : decode code 877 = .ok (.aload_n 0, 1) := by decide +kernel
theorem dL_878 : decode code 878 = .ok (.iload_n 3, 1) := by decide +kernel
theorem dL_879 : decode code 879 = .ok (.iconst 1, 1) := by decide +kernel
theorem dL_880 : decode code 880 = .ok (.iadd, 1) := by decide +kernel
theorem dL_881 : decode code 881 = .ok (.iaload, 1) := by decide +kernel
theorem dL_882 : decode code 882 = .ok (.invokevirtual 118, 3) := by decide +kernel
theorem dL_885 : decode code 885 = .ok (.aload_n 2, 1) := by decide +kernel
theorem dL_886 : decode code 886 = .ok (.aload_n 0, 1) := by decide +kernel
theorem dL_887 : decode code 887 = .ok (.iload_n 3, 1) := by decide +kernel
theorem dL_888 : decode code 888 = .ok (.iconst 1, 1) := by decide +kernel
theorem dL_889 : decode code 889 = .ok (.iadd, 1) := by decide +kernel
theorem dL_890 : decode code 890 = .ok (.iaload, 1) := by decide +kernel
theorem dL_891 : decode code 891 = .ok (.invokevirtual 121, 3) := by decide +kernel
theorem dL_894 : decode code 894 = .ok (.if_icmp .eq 201, 3) := by decide +kernel
theorem dL_897 : decode code 897 = .ok (.iconst 0, 1) := by decide +kernel
theorem dL_898 : decode code 898 = .ok (.ireturn, 1) := by decide +kernel
theorem dL_899 : decode code 899 = .ok (.aload_n 1, 1) := by decide +kernel
theorem dL_900 : decode code 900 = .ok (.invokevirtual 122, 3) := by decide +kernel
theorem dL_903 : decode code 903 = .ok (.aload_n 2, 1) := by decide +kernel
theorem dL_904 : decode code 904 = .ok (.invokevirtual 125, 3) := by decide +kernel
theorem dL_907 : decode code 907 = .ok (.if_icmp .eq 188, 3) := by decide +kernel
theorem dL_910 : decode code 910 = .ok (.iconst 0, 1) := by decide +kernel
theorem dL_911 : decode code 911 = .ok (.ireturn, 1) := by decide +kernel
theorem dL_912 : decode code 912 = .ok (.aload_n 1, 1) := by decide +kernel
theorem dL_913 : decode code 913 = .ok (.aload_n 0, 1) := by decide +kernel
theorem dL_914 : decode code 914 = .ok (.iload_n 3, 1) := by decide +kernel
theorem dL_915 : decode code 915 = .ok (.iconst 1, 1) := by decide +kernel
theorem dL_916 : decode code 916 = .ok (.iadd, 1) := by decide +kernel
theorem dL_917 : decode code 917 = .ok (.iaload, 1) := by decide +kernel
theorem dL_918 : decode code 918 = .ok (.invokevirtual 126, 3) := by decide +kernel
theorem dL_921 : decode code 921 = .ok (.aload_n 2, 1) := by decide +kernel
theorem dL_922 : decode code 922 = .ok (.aload_n 0, 1) := by decide +kernel
theorem dL_923 : decode code 923 = .ok (.iload_n 3, 1) := by decide +kernel
theorem dL_924 : decode code 924 = .ok (.iconst 1, 1) := by decide +kernel
theorem dL_925 : decode code 925 = .ok (.iadd, 1) := by decide +kernel
theorem dL_926 : decode code 926 = .ok (.iaload, 1) := by decide +kernel
theorem dL_927 : decode code 927 = .ok (.invokevirtual 129, 3) := by decide +kernel
theorem dL_930 : decode code 930 = .ok (.if_icmp .eq 165, 3) := by decide +kernel
theorem dL_933 : decode code 933 = .ok (.iconst 0, 1) := by decide +kernel
theorem dL_934 : decode code 934 = .ok (.ireturn, 1) := by decide +kernel
theorem dL_935 : decode code 935 = .ok (.aload_n 1, 1) := by decide +kernel
theorem dL_936 : decode code 936 = .ok (.aload_n 0, 1) := by decide +kernel
theorem dL_937 : decode code 937 = .ok (.iload_n 3, 1) := by decide +kernel
theorem dL_938 : decode code 938 = .ok (.iconst 1, 1) := by decide +kernel
theorem dL_939 : decode code 939 = .ok (.iadd, 1) := by decide +kernel
theorem dL_940 : decode code 940 = .ok (.iaload, 1) := by decide +kernel
theorem dL_941 : decode code 941 = .ok (.invokevirtual 130, 3) := by decide +kernel
theorem dL_944 : decode code 944 = .ok (.aload_n 2, 1) := by decide +kernel
theorem dL_945 : decode code 945 = .ok (.aload_n 0, 1) := by decide +kernel
theorem dL_946 : decode code 946 = .ok (.iload_n 3, 1) := by decide +kernel
theorem dL_947 : decode code 947 = .ok (.iconst 1, 1) := by decide +kernel
theorem dL_948 : decode code 948 = .ok (.iadd, 1) := by decide +kernel
theorem dL_949 : decode code 949 = .ok (.iaload, 1) := by decide +kernel
theorem dL_950 : decode code 950 = .ok (.invokevirtual 133, 3) := by decide +kernel
theorem dL_953 : decode code 953 = .ok (.if_icmp .eq 142, 3) := by decide +kernel
theorem dL_956 : decode code 956 = .ok (.iconst 0, 1) := by decide +kernel
theorem dL_957 : decode code 957 = .ok (.ireturn, 1) := by decide +kernel
theorem dL_958 : decode code 958 = .ok (.aload_n 1, 1) := by decide +kernel
theorem dL_959 : decode code 959 = .ok (.invokevirtual 134, 3) := by decide +kernel
theorem dL_962 : decode code 962 = .ok (.aload_n 2, 1) := by decide +kernel
theorem dL_963 : decode code 963 = .ok (.invokevirtual 137, 3) := by decide +kernel
theorem dL_966 : decode code 966 = .ok (.if_icmp .eq 129, 3) := by decide +kernel
theorem dL_969 : decode code 969 = .ok (.iconst 0, 1) := by decide +kernel
theorem dL_970 : decode code 970 = .ok (.ireturn, 1) := by decide +kernel
theorem dL_971 : decode code 971 = .ok (.aload_n 1, 1) := by decide +kernel
theorem dL_972 : decode code 972 = .ok (.aload_n 0, 1) := by decide +kernel
theorem dL_973 : decode code 973 = .ok (.iload_n 3, 1) := by decide +kernel
theorem dL_974 : decode code 974 = .ok (.iconst 1, 1) := by decide +kernel
theorem dL_975 : decode code 975 = .ok (.iadd, 1) := by decide +kernel
theorem dL_976 : decode code 976 = .ok (.iaload, 1) := by decide +kernel
theorem dL_977 : decode code 977 = .ok (.invokevirtual 138, 3) := by decide +kernel
theorem dL_980 : decode code 980 = .ok (.aload_n 2, 1) := by decide +kernel
theorem dL_981 : decode code 981 = .ok (.aload_n 0, 1) := by decide +kernel
theorem dL_982 : decode code 982 = .ok (.iload_n 3, 1) := by decide +kernel
theorem dL_983 : decode code 983 = .ok (.iconst 1, 1) := by decide +kernel
theorem dL_984 : decode code 984 = .ok (.iadd, 1) := by decide +kernel
theorem dL_985 : decode code 985 = .ok (.iaload, 1) := by decide +kernel
theorem dL_986 : decode code 986 = .ok (.invokevirtual 141, 3) := by decide +kernel
theorem dL_989 : decode code 989 = .ok (.if_icmp .eq 106, 3) := by decide +kernel
theorem dL_992 : decode code 992 = .ok (.iconst 0, 1) := by decide +kernel
theorem dL_993 : decode code 993 = .ok (.ireturn, 1) := by decide +kernel
theorem dL_994 : decode code 994 = .ok (.aload_n 1, 1) := by decide +kernel
theorem dL_995 : decode code 995 = .ok (.aload_n 0, 1) := by decide +kernel
theorem dL_996 : decode code 996 = .ok (.iload_n 3, 1) := by decide +kernel
theorem dL_997 : decode code 997 = .ok (.iconst 1, 1) := by decide +kernel
theorem dL_998 : decode code 998 = .ok (.iadd, 1) := by decide +kernel
theorem dL_999 : decode code 999 = .ok (.iaload, 1) := by decide +kernel
theorem dL_1000 : decode code 1000 = .ok (.invokevirtual 142, 3) := by decide +kernel
theorem dL_1003 : decode code 1003 = .ok (.aload_n 2, 1) := by decide +kernel
theorem dL_1004 : decode code 1004 = .ok (.aload_n 0, 1) := by decide +kernel
theorem dL_1005 : decode code 1005 = .ok (.iload_n 3, 1) := by decide +kernel
theorem dL_1006 : decode code 1006 = .ok (.iconst 1, 1) := by decide +kernel
theorem dL_1007 : decode code 1007 = .ok (.iadd, 1) := by decide +kernel
theorem dL_1008 : decode code 1008 = .ok (.iaload, 1) := by decide +kernel
theorem dL_1009 : decode code 1009 = .ok (.invokevirtual 145, 3) := by decide +kernel
theorem dL_1012 : decode code 1012 = .ok (.if_icmp .eq 83, 3) := by decide +kernel
theorem dL_1015 : decode code 1015 = .ok (.iconst 0, 1) := by decide +kernel
theorem dL_1016 : decode code 1016 = .ok (.ireturn, 1) := by decide +kernel
theorem dL_1017 : decode code 1017 = .ok (.aload_n 1, 1) := by decide +kernel
theorem dL_1018 : decode code 1018 = .ok (.invokevirtual 146, 3) := by decide +kernel
theorem dL_1021 : decode code 1021 = .ok (.aload_n 2, 1) := by decide +kernel
theorem dL_1022 : decode code 1022 = .ok (.invokevirtual 149, 3) := by decide +kernel
theorem dL_1025 : decode code 1025 = .ok (.if_icmp .eq 70, 3) := by decide +kernel
theorem dL_1028 : decode code 1028 = .ok (.iconst 0, 1) := by decide +kernel
theorem dL_1029 : decode code 1029 = .ok (.ireturn, 1) := by decide +kernel
theorem dL_1030 : decode code 1030 = .ok (.aload_n 1, 1) := by decide +kernel
theorem dL_1031 : decode code 1031 = .ok (.invokevirtual 150, 3) := by decide +kernel
theorem dL_1034 : decode code 1034 = .ok (.aload_n 2, 1) := by decide +kernel
theorem dL_1035 : decode code 1035 = .ok (.invokevirtual 153, 3) := by decide +kernel
theorem dL_1038 : decode code 1038 = .ok (.if_icmp .eq 57, 3) := by decide +kernel
theorem dL_1041 : decode code 1041 = .ok (.iconst 0, 1) := by decide +kernel
theorem dL_1042 : decode code 1042 = .ok (.ireturn, 1) := by decide +kernel
theorem dL_1043 : decode code 1043 = .ok (.aload_n 1, 1) := by decide +kernel
theorem dL_1044 : decode code 1044 = .ok (.invokevirtual 154, 3) := by decide +kernel
theorem dL_1047 : decode code 1047 = .ok (.aload_n 2, 1) := by decide +kernel
theorem dL_1048 : decode code 1048 = .ok (.invokevirtual 157, 3) := by decide +kernel
theorem dL_1051 : decode code 1051 = .ok (.if_icmp .eq 44, 3) := by decide +kernel
theorem dL_1054 : decode code 1054 = .ok (.iconst 0, 1) := by decide +kernel
theorem dL_1055 : decode code 1055 = .ok (.ireturn, 1) := by decide +kernel
theorem dL_1056 : decode code 1056 = .ok (.aload_n 1, 1) := by decide +kernel
theorem dL_1057 : decode code 1057 = .ok (.invokevirtual 158, 3) := by decide +kernel
theorem dL_1060 : decode code 1060 = .ok (.aload_n 2, 1) := by decide +kernel
theorem dL_1061 : decode code 1061 = .ok (.invokevirtual 161, 3) := by decide +kernel
theorem dL_1064 : decode code 1064 = .ok (.if_icmp .eq 31, 3) := by decide +kernel
theorem dL_1067 : decode code 1067 = .ok (.iconst 0, 1) := by decide +kernel
theorem dL_1068 : decode code 1068 = .ok (.ireturn, 1) := by decide +kernel
theorem dL_1069 : decode code 1069 = .ok (.aload_n 1, 1) := by decide +kernel
theorem dL_1070 : decode code 1070 = .ok (.invokevirtual 162, 3) := by decide +kernel
theorem dL_1073 : decode code 1073 = .ok (.aload_n 2, 1) := by decide +kernel
theorem dL_1074 : decode code 1074 = .ok (.invokevirtual 165, 3) := by decide +kernel
theorem dL_1077 : decode code 1077 = .ok (.if_icmp .eq 18, 3) := by decide +kernel
theorem dL_1080 : decode code 1080 = .ok (.iconst 0, 1) := by decide +kernel
theorem dL_1081 : decode code 1081 = .ok (.ireturn, 1) := by decide +kernel
theorem dL_1082 : decode code 1082 = .ok (.aload_n 1, 1) := by decide +kernel
theorem dL_1083 : decode code 1083 = .ok (.invokevirtual 166, 3) := by decide +kernel
theorem dL_1086 : decode code 1086 = .ok (.aload_n 2, 1) := by decide +kernel
theorem dL_1087 : decode code 1087 = .ok (.invokevirtual 169, 3) := by decide +kernel
theorem dL_1090 : decode code 1090 = .ok (.if_icmp .eq 5, 3) := by decide +kernel
theorem dL_1093 : decode code 1093 = .ok (.iconst 0, 1) := by decide +kernel
theorem dL_1094 : decode code 1094 = .ok (.ireturn, 1) := by decide +kernel
theorem dL_1095 : decode code 1095 = .ok (.iinc 3 4, 3) := by decide +kernel
theorem dL_1098 : decode code 1098 = .ok (.goto (-1080), 3) := by decide +kernel
theorem dL_1101 : decode code 1101 = .ok (.iconst 1, 1) := by decide +kernel
theorem dL_1102 : decode code 1102 = .ok (.ireturn, 1) := by decide +kernel
section
variable {p : Program} {l : Launch} {e : Env} {s : State} {m : MethodId} {below : List Frame} {meth : Method} {c : Code} {b L : Nat} {xs : Nat → Int32} {ad : xI → Nat} {D : va_G} {cA : Nat → ClassId} {x : Int32} {μ : xM}
theorem lF1_atom : LF (8, 0, 0) 13 mX8_atom 1 := ⟨xdX8_atom, rfl, xw 295 (by decide +kernel) (by decide +kernel), xw 296 (by decide +kernel) (by decide +kernel), xw 297 (by decide +kernel) (by decide +kernel), Or.inl ⟨rfl, rfl⟩⟩
theorem lF2_atom : LF (9, 0, 0) 17 mX9_atom 1 := ⟨xdX9_atom, rfl, xw 836 (by decide +kernel) (by decide +kernel), xw 837 (by decide +kernel) (by decide +kernel), xw 838 (by decide +kernel) (by decide +kernel), Or.inr ⟨rfl, rfl⟩⟩
theorem lk_atom (C0 : LC p l s m meth c b L xs ad D cA) (hs : SIM μ) (h1 : vp_in (x + 1) L) (kk : ∀ μ, SIM μ → LW p l e s m below meth c b ad D cA x 1095 [] μ) : LW p l e s m below meth c b ad D cA x 200 [] μ := by
  refine lw_c C0 dL_200 ?_
  refine lw_arg C0 1 (by decide +kernel) h1 ⟨dL_201, dL_202, dL_203, dL_204, dL_205⟩ ?_
  refine lw_case (M1 := mX8_atom) (M2 := mX9_atom) (args := [vI (lw_w xs x 1)]) (pc1 := 206) (pc2 := 215) C0 (sim_of fun S H K T ok => op_atom (lw_w xs x 1) ok) hs (by simp [xvok]) lF1_atom lF2_atom dL_206 dL_215 dL_218 (by decide +kernel) (fun y μ hk => ?_) kk
  refine lw_m C0 dL_209 ?_
  refine lw_arg C0 1 (by decide +kernel) h1 ⟨dL_210, dL_211, dL_212, dL_213, dL_214⟩ ?_
  exact hk
theorem lF1_falsum : LF (8, 0, 0) 18 mX8_falsum 0 := ⟨xdX8_falsum, rfl, xw 355 (by decide +kernel) (by decide +kernel), xw 356 (by decide +kernel) (by decide +kernel), xw 357 (by decide +kernel) (by decide +kernel), Or.inl ⟨rfl, rfl⟩⟩
theorem lF2_falsum : LF (9, 0, 0) 22 mX9_falsum 0 := ⟨xdX9_falsum, rfl, xw 871 (by decide +kernel) (by decide +kernel), xw 872 (by decide +kernel) (by decide +kernel), xw 873 (by decide +kernel) (by decide +kernel), Or.inr ⟨rfl, rfl⟩⟩
theorem lk_falsum (C0 : LC p l s m meth c b L xs ad D cA) (hs : SIM μ) (kk : ∀ μ, SIM μ → LW p l e s m below meth c b ad D cA x 1095 [] μ) : LW p l e s m below meth c b ad D cA x 223 [] μ := by
  refine lw_c C0 dL_223 ?_
  refine lw_case (M1 := mX8_falsum) (M2 := mX9_falsum) (args := []) (pc1 := 224) (pc2 := 228) C0 (sim_of fun S H K T ok => op_falsum ok) hs (fun v hv => absurd hv List.not_mem_nil) lF1_falsum lF2_falsum dL_224 dL_228 dL_231 (by decide +kernel) (fun y μ hk => ?_) kk
  refine lw_m C0 dL_227 ?_
  exact hk
theorem lF1_not : LF (8, 0, 0) 23 mX8_not 1 := ⟨xdX8_not, rfl, xw 359 (by decide +kernel) (by decide +kernel), xw 360 (by decide +kernel) (by decide +kernel), xw 361 (by decide +kernel) (by decide +kernel), Or.inl ⟨rfl, rfl⟩⟩
theorem lF2_not : LF (9, 0, 0) 26 mX9_not 1 := ⟨xdX9_not, rfl, xw 875 (by decide +kernel) (by decide +kernel), xw 876 (by decide +kernel) (by decide +kernel), xw 877 (by decide +kernel) (by decide +kernel), Or.inr ⟨rfl, rfl⟩⟩
theorem lk_not (C0 : LC p l s m meth c b L xs ad D cA) (hs : SIM μ) (h1 : vp_in (x + 1) L) (kk : ∀ μ, SIM μ → LW p l e s m below meth c b ad D cA x 1095 [] μ) : LW p l e s m below meth c b ad D cA x 236 [] μ := by
  refine lw_c C0 dL_236 ?_
  refine lw_arg C0 1 (by decide +kernel) h1 ⟨dL_237, dL_238, dL_239, dL_240, dL_241⟩ ?_
  refine lw_case (M1 := mX8_not) (M2 := mX9_not) (args := [vI (lw_w xs x 1)]) (pc1 := 242) (pc2 := 251) C0 (sim_of fun S H K T ok => op_not (lw_w xs x 1) ok) hs (by simp [xvok]) lF1_not lF2_not dL_242 dL_251 dL_254 (by decide +kernel) (fun y μ hk => ?_) kk
  refine lw_m C0 dL_245 ?_
  refine lw_arg C0 1 (by decide +kernel) h1 ⟨dL_246, dL_247, dL_248, dL_249, dL_250⟩ ?_
  exact hk
theorem lF1_pair : LF (8, 0, 0) 27 mX8_pair 3 := ⟨xdX8_pair, rfl, xw 367 (by decide +kernel) (by decide +kernel), xw 368 (by decide +kernel) (by decide +kernel), xw 369 (by decide +kernel) (by decide +kernel), Or.inl ⟨rfl, rfl⟩⟩
theorem lF2_pair : LF (9, 0, 0) 31 mX9_pair 3 := ⟨xdX9_pair, rfl, xw 883 (by decide +kernel) (by decide +kernel), xw 884 (by decide +kernel) (by decide +kernel), xw 885 (by decide +kernel) (by decide +kernel), Or.inr ⟨rfl, rfl⟩⟩
theorem lk_pair (C0 : LC p l s m meth c b L xs ad D cA) (hs : SIM μ) (h1 : vp_in (x + 1) L) (h2 : vp_in (x + 2) L) (h3 : vp_in (x + 3) L) (kk : ∀ μ, SIM μ → LW p l e s m below meth c b ad D cA x 1095 [] μ) : LW p l e s m below meth c b ad D cA x 259 [] μ := by
  refine lw_c C0 dL_259 ?_
  refine lw_arg C0 1 (by decide +kernel) h1 ⟨dL_260, dL_261, dL_262, dL_263, dL_264⟩ ?_
  refine lw_arg C0 2 (by decide +kernel) h2 ⟨dL_265, dL_266, dL_267, dL_268, dL_269⟩ ?_
  refine lw_arg C0 3 (by decide +kernel) h3 ⟨dL_270, dL_271, dL_272, dL_273, dL_274⟩ ?_
  refine lw_case (M1 := mX8_pair) (M2 := mX9_pair) (args := [vI (lw_w xs x 1), vI (lw_w xs x 2), vI (lw_w xs x 3)]) (pc1 := 275) (pc2 := 294) C0 (sim_of fun S H K T ok => op_pair (lw_w xs x 1) (lw_w xs x 2) (lw_w xs x 3) ok) hs (by simp [xvok]) lF1_pair lF2_pair dL_275 dL_294 dL_297 (by decide +kernel) (fun y μ hk => ?_) kk
  refine lw_m C0 dL_278 ?_
  refine lw_arg C0 1 (by decide +kernel) h1 ⟨dL_279, dL_280, dL_281, dL_282, dL_283⟩ ?_
  refine lw_arg C0 2 (by decide +kernel) h2 ⟨dL_284, dL_285, dL_286, dL_287, dL_288⟩ ?_
  refine lw_arg C0 3 (by decide +kernel) h3 ⟨dL_289, dL_290, dL_291, dL_292, dL_293⟩ ?_
  exact hk
theorem lF1_formulas : LF (8, 0, 0) 32 mX8_formulas 0 := ⟨xdX8_formulas, rfl, xw 371 (by decide +kernel) (by decide +kernel), xw 372 (by decide +kernel) (by decide +kernel), xw 373 (by decide +kernel) (by decide +kernel), Or.inl ⟨rfl, rfl⟩⟩
theorem lF2_formulas : LF (9, 0, 0) 35 mX9_formulas 0 := ⟨xdX9_formulas, rfl, xw 887 (by decide +kernel) (by decide +kernel), xw 888 (by decide +kernel) (by decide +kernel), xw 889 (by decide +kernel) (by decide +kernel), Or.inr ⟨rfl, rfl⟩⟩
theorem lk_formulas (C0 : LC p l s m meth c b L xs ad D cA) (hs : SIM μ) (kk : ∀ μ, SIM μ → LW p l e s m below meth c b ad D cA x 1095 [] μ) : LW p l e s m below meth c b ad D cA x 302 [] μ := by
  refine lw_c C0 dL_302 ?_
  refine lw_case (M1 := mX8_formulas) (M2 := mX9_formulas) (args := []) (pc1 := 303) (pc2 := 307) C0 (sim_of fun S H K T ok => op_formulas ok) hs (fun v hv => absurd hv List.not_mem_nil) lF1_formulas lF2_formulas dL_303 dL_307 dL_310 (by decide +kernel) (fun y μ hk => ?_) kk
  refine lw_m C0 dL_306 ?_
  exact hk
theorem lF1_part : LF (8, 0, 0) 36 mX8_part 2 := ⟨xdX8_part, rfl, xw 375 (by decide +kernel) (by decide +kernel), xw 376 (by decide +kernel) (by decide +kernel), xw 377 (by decide +kernel) (by decide +kernel), Or.inl ⟨rfl, rfl⟩⟩
theorem lF2_part : LF (9, 0, 0) 40 mX9_part 2 := ⟨xdX9_part, rfl, xw 891 (by decide +kernel) (by decide +kernel), xw 892 (by decide +kernel) (by decide +kernel), xw 893 (by decide +kernel) (by decide +kernel), Or.inr ⟨rfl, rfl⟩⟩
theorem lk_part (C0 : LC p l s m meth c b L xs ad D cA) (hs : SIM μ) (h1 : vp_in (x + 1) L) (h2 : vp_in (x + 2) L) (kk : ∀ μ, SIM μ → LW p l e s m below meth c b ad D cA x 1095 [] μ) : LW p l e s m below meth c b ad D cA x 315 [] μ := by
  refine lw_c C0 dL_315 ?_
  refine lw_arg C0 1 (by decide +kernel) h1 ⟨dL_316, dL_317, dL_318, dL_319, dL_320⟩ ?_
  refine lw_arg C0 2 (by decide +kernel) h2 ⟨dL_321, dL_322, dL_323, dL_324, dL_325⟩ ?_
  refine lw_case (M1 := mX8_part) (M2 := mX9_part) (args := [vI (lw_w xs x 1), vI (lw_w xs x 2)]) (pc1 := 326) (pc2 := 340) C0 (sim_of fun S H K T ok => op_part (lw_w xs x 1) (lw_w xs x 2) ok) hs (by simp [xvok]) lF1_part lF2_part dL_326 dL_340 dL_343 (by decide +kernel) (fun y μ hk => ?_) kk
  refine lw_m C0 dL_329 ?_
  refine lw_arg C0 1 (by decide +kernel) h1 ⟨dL_330, dL_331, dL_332, dL_333, dL_334⟩ ?_
  refine lw_arg C0 2 (by decide +kernel) h2 ⟨dL_335, dL_336, dL_337, dL_338, dL_339⟩ ?_
  exact hk
theorem lF1_length : LF (8, 0, 0) 41 mX8_length 1 := ⟨xdX8_length, rfl, xw 380 (by decide +kernel) (by decide +kernel), xw 381 (by decide +kernel) (by decide +kernel), xw 382 (by decide +kernel) (by decide +kernel), Or.inl ⟨rfl, rfl⟩⟩
theorem lF2_length : LF (9, 0, 0) 44 mX9_length 1 := ⟨xdX9_length, rfl, xw 895 (by decide +kernel) (by decide +kernel), xw 896 (by decide +kernel) (by decide +kernel), xw 897 (by decide +kernel) (by decide +kernel), Or.inr ⟨rfl, rfl⟩⟩
theorem lk_length (C0 : LC p l s m meth c b L xs ad D cA) (hs : SIM μ) (h1 : vp_in (x + 1) L) (kk : ∀ μ, SIM μ → LW p l e s m below meth c b ad D cA x 1095 [] μ) : LW p l e s m below meth c b ad D cA x 348 [] μ := by
  refine lw_c C0 dL_348 ?_
  refine lw_arg C0 1 (by decide +kernel) h1 ⟨dL_349, dL_350, dL_351, dL_352, dL_353⟩ ?_
  refine lw_case (M1 := mX8_length) (M2 := mX9_length) (args := [vI (lw_w xs x 1)]) (pc1 := 354) (pc2 := 363) C0 (sim_of fun S H K T ok => op_length (lw_w xs x 1) ok) hs (by simp [xvok]) lF1_length lF2_length dL_354 dL_363 dL_366 (by decide +kernel) (fun y μ hk => ?_) kk
  refine lw_m C0 dL_357 ?_
  refine lw_arg C0 1 (by decide +kernel) h1 ⟨dL_358, dL_359, dL_360, dL_361, dL_362⟩ ?_
  exact hk
theorem lF1_character : LF (8, 0, 0) 45 mX8_character 2 := ⟨xdX8_character, rfl, xw 390 (by decide +kernel) (by decide +kernel), xw 391 (by decide +kernel) (by decide +kernel), xw 392 (by decide +kernel) (by decide +kernel), Or.inl ⟨rfl, rfl⟩⟩
theorem lF2_character : LF (9, 0, 0) 48 mX9_character 2 := ⟨xdX9_character, rfl, xw 904 (by decide +kernel) (by decide +kernel), xw 905 (by decide +kernel) (by decide +kernel), xw 906 (by decide +kernel) (by decide +kernel), Or.inr ⟨rfl, rfl⟩⟩
theorem lk_character (C0 : LC p l s m meth c b L xs ad D cA) (hs : SIM μ) (h1 : vp_in (x + 1) L) (h2 : vp_in (x + 2) L) (kk : ∀ μ, SIM μ → LW p l e s m below meth c b ad D cA x 1095 [] μ) : LW p l e s m below meth c b ad D cA x 371 [] μ := by
  refine lw_c C0 dL_371 ?_
  refine lw_arg C0 1 (by decide +kernel) h1 ⟨dL_372, dL_373, dL_374, dL_375, dL_376⟩ ?_
  refine lw_arg C0 2 (by decide +kernel) h2 ⟨dL_377, dL_378, dL_379, dL_380, dL_381⟩ ?_
  refine lw_case (M1 := mX8_character) (M2 := mX9_character) (args := [vI (lw_w xs x 1), vI (lw_w xs x 2)]) (pc1 := 382) (pc2 := 396) C0 (sim_of fun S H K T ok => op_character (lw_w xs x 1) (lw_w xs x 2) ok) hs (by simp [xvok]) lF1_character lF2_character dL_382 dL_396 dL_399 (by decide +kernel) (fun y μ hk => ?_) kk
  refine lw_m C0 dL_385 ?_
  refine lw_arg C0 1 (by decide +kernel) h1 ⟨dL_386, dL_387, dL_388, dL_389, dL_390⟩ ?_
  refine lw_arg C0 2 (by decide +kernel) h2 ⟨dL_391, dL_392, dL_393, dL_394, dL_395⟩ ?_
  exact hk
theorem lF1_isTrue : LF (8, 0, 0) 49 mX8_isTrue 2 := ⟨xdX8_isTrue, rfl, xw 405 (by decide +kernel) (by decide +kernel), xw 406 (by decide +kernel) (by decide +kernel), xw 407 (by decide +kernel) (by decide +kernel), Or.inl ⟨rfl, rfl⟩⟩
theorem lF2_isTrue : LF (9, 0, 0) 52 mX9_isTrue 2 := ⟨xdX9_isTrue, rfl, xw 908 (by decide +kernel) (by decide +kernel), xw 909 (by decide +kernel) (by decide +kernel), xw 910 (by decide +kernel) (by decide +kernel), Or.inr ⟨rfl, rfl⟩⟩
theorem lk_isTrue (C0 : LC p l s m meth c b L xs ad D cA) (hs : SIM μ) (h1 : vp_in (x + 1) L) (h2 : vp_in (x + 2) L) (kk : ∀ μ, SIM μ → LW p l e s m below meth c b ad D cA x 1095 [] μ) : LW p l e s m below meth c b ad D cA x 404 [] μ := by
  refine lw_c C0 dL_404 ?_
  refine lw_arg C0 1 (by decide +kernel) h1 ⟨dL_405, dL_406, dL_407, dL_408, dL_409⟩ ?_
  refine lw_arg C0 2 (by decide +kernel) h2 ⟨dL_410, dL_411, dL_412, dL_413, dL_414⟩ ?_
  refine lw_case (M1 := mX8_isTrue) (M2 := mX9_isTrue) (args := [vI (lw_w xs x 1), vI (lw_w xs x 2)]) (pc1 := 415) (pc2 := 429) C0 (sim_of fun S H K T ok => op_isTrue (lw_w xs x 1) (lw_w xs x 2) ok) hs (by simp [xvok]) lF1_isTrue lF2_isTrue dL_415 dL_429 dL_432 (by decide +kernel) (fun y μ hk => ?_) kk
  refine lw_m C0 dL_418 ?_
  refine lw_arg C0 1 (by decide +kernel) h1 ⟨dL_419, dL_420, dL_421, dL_422, dL_423⟩ ?_
  refine lw_arg C0 2 (by decide +kernel) h2 ⟨dL_424, dL_425, dL_426, dL_427, dL_428⟩ ?_
  exact hk
theorem lF1_premise : LF (8, 0, 0) 53 mX8_premise 1 := ⟨xdX8_premise, rfl, xw 425 (by decide +kernel) (by decide +kernel), xw 426 (by decide +kernel) (by decide +kernel), xw 427 (by decide +kernel) (by decide +kernel), Or.inl ⟨rfl, rfl⟩⟩
theorem lF2_premise : LF (9, 0, 0) 56 mX9_premise 1 := ⟨xdX9_premise, rfl, xw 916 (by decide +kernel) (by decide +kernel), xw 917 (by decide +kernel) (by decide +kernel), xw 918 (by decide +kernel) (by decide +kernel), Or.inr ⟨rfl, rfl⟩⟩
theorem lk_premise (C0 : LC p l s m meth c b L xs ad D cA) (hs : SIM μ) (h1 : vp_in (x + 1) L) (kk : ∀ μ, SIM μ → LW p l e s m below meth c b ad D cA x 1095 [] μ) : LW p l e s m below meth c b ad D cA x 437 [] μ := by
  refine lw_c C0 dL_437 ?_
  refine lw_arg C0 1 (by decide +kernel) h1 ⟨dL_438, dL_439, dL_440, dL_441, dL_442⟩ ?_
  refine lw_case (M1 := mX8_premise) (M2 := mX9_premise) (args := [vI (lw_w xs x 1)]) (pc1 := 443) (pc2 := 452) C0 (sim_of fun S H K T ok => op_premise (lw_w xs x 1) ok) hs (by simp [xvok]) lF1_premise lF2_premise dL_443 dL_452 dL_455 (by decide +kernel) (fun y μ hk => ?_) kk
  refine lw_m C0 dL_446 ?_
  refine lw_arg C0 1 (by decide +kernel) h1 ⟨dL_447, dL_448, dL_449, dL_450, dL_451⟩ ?_
  exact hk
theorem lF1_open : LF (8, 0, 0) 57 mX8_open 1 := ⟨xdX8_open, rfl, xw 442 (by decide +kernel) (by decide +kernel), xw 443 (by decide +kernel) (by decide +kernel), xw 444 (by decide +kernel) (by decide +kernel), Or.inl ⟨rfl, rfl⟩⟩
theorem lF2_open : LF (9, 0, 0) 60 mX9_open 1 := ⟨xdX9_open, rfl, xw 940 (by decide +kernel) (by decide +kernel), xw 941 (by decide +kernel) (by decide +kernel), xw 942 (by decide +kernel) (by decide +kernel), Or.inr ⟨rfl, rfl⟩⟩
theorem lk_open (C0 : LC p l s m meth c b L xs ad D cA) (hs : SIM μ) (h1 : vp_in (x + 1) L) (kk : ∀ μ, SIM μ → LW p l e s m below meth c b ad D cA x 1095 [] μ) : LW p l e s m below meth c b ad D cA x 460 [] μ := by
  refine lw_c C0 dL_460 ?_
  refine lw_arg C0 1 (by decide +kernel) h1 ⟨dL_461, dL_462, dL_463, dL_464, dL_465⟩ ?_
  refine lw_case (M1 := mX8_open) (M2 := mX9_open) (args := [vI (lw_w xs x 1)]) (pc1 := 466) (pc2 := 475) C0 (sim_of fun S H K T ok => op_open (lw_w xs x 1) ok) hs (by simp [xvok]) lF1_open lF2_open dL_466 dL_475 dL_478 (by decide +kernel) (fun y μ hk => ?_) kk
  refine lw_m C0 dL_469 ?_
  refine lw_arg C0 1 (by decide +kernel) h1 ⟨dL_470, dL_471, dL_472, dL_473, dL_474⟩ ?_
  exact hk
theorem lF1_close : LF (8, 0, 0) 61 mX8_close 0 := ⟨xdX8_close, rfl, xw 464 (by decide +kernel) (by decide +kernel), xw 465 (by decide +kernel) (by decide +kernel), xw 466 (by decide +kernel) (by decide +kernel), Or.inl ⟨rfl, rfl⟩⟩
theorem lF2_close : LF (9, 0, 0) 64 mX9_close 0 := ⟨xdX9_close, rfl, xw 948 (by decide +kernel) (by decide +kernel), xw 949 (by decide +kernel) (by decide +kernel), xw 950 (by decide +kernel) (by decide +kernel), Or.inr ⟨rfl, rfl⟩⟩
theorem lk_close (C0 : LC p l s m meth c b L xs ad D cA) (hs : SIM μ) (kk : ∀ μ, SIM μ → LW p l e s m below meth c b ad D cA x 1095 [] μ) : LW p l e s m below meth c b ad D cA x 483 [] μ := by
  refine lw_c C0 dL_483 ?_
  refine lw_case (M1 := mX8_close) (M2 := mX9_close) (args := []) (pc1 := 484) (pc2 := 488) C0 (sim_of fun S H K T ok => op_close ok) hs (fun v hv => absurd hv List.not_mem_nil) lF1_close lF2_close dL_484 dL_488 dL_491 (by decide +kernel) (fun y μ hk => ?_) kk
  refine lw_m C0 dL_487 ?_
  exact hk
theorem lF1_repeat : LF (8, 0, 0) 65 mX8_repeat 1 := ⟨xdX8_repeat, rfl, xw 476 (by decide +kernel) (by decide +kernel), xw 477 (by decide +kernel) (by decide +kernel), xw 478 (by decide +kernel) (by decide +kernel), Or.inl ⟨rfl, rfl⟩⟩
theorem lF2_repeat : LF (9, 0, 0) 68 mX9_repeat 1 := ⟨xdX9_repeat, rfl, xw 956 (by decide +kernel) (by decide +kernel), xw 957 (by decide +kernel) (by decide +kernel), xw 958 (by decide +kernel) (by decide +kernel), Or.inr ⟨rfl, rfl⟩⟩
theorem lk_repeat (C0 : LC p l s m meth c b L xs ad D cA) (hs : SIM μ) (h1 : vp_in (x + 1) L) (kk : ∀ μ, SIM μ → LW p l e s m below meth c b ad D cA x 1095 [] μ) : LW p l e s m below meth c b ad D cA x 496 [] μ := by
  refine lw_c C0 dL_496 ?_
  refine lw_arg C0 1 (by decide +kernel) h1 ⟨dL_497, dL_498, dL_499, dL_500, dL_501⟩ ?_
  refine lw_case (M1 := mX8_repeat) (M2 := mX9_repeat) (args := [vI (lw_w xs x 1)]) (pc1 := 502) (pc2 := 511) C0 (sim_of fun S H K T ok => op_repeat (lw_w xs x 1) ok) hs (by simp [xvok]) lF1_repeat lF2_repeat dL_502 dL_511 dL_514 (by decide +kernel) (fun y μ hk => ?_) kk
  refine lw_m C0 dL_505 ?_
  refine lw_arg C0 1 (by decide +kernel) h1 ⟨dL_506, dL_507, dL_508, dL_509, dL_510⟩ ?_
  exact hk
theorem lF1_fromTwo : LF (8, 0, 0) 69 mX8_fromTwo 3 := ⟨xdX8_fromTwo, rfl, xw 492 (by decide +kernel) (by decide +kernel), xw 493 (by decide +kernel) (by decide +kernel), xw 494 (by decide +kernel) (by decide +kernel), Or.inl ⟨rfl, rfl⟩⟩
theorem lF2_fromTwo : LF (9, 0, 0) 72 mX9_fromTwo 3 := ⟨xdX9_fromTwo, rfl, xw 980 (by decide +kernel) (by decide +kernel), xw 981 (by decide +kernel) (by decide +kernel), xw 982 (by decide +kernel) (by decide +kernel), Or.inr ⟨rfl, rfl⟩⟩
theorem lk_fromTwo (C0 : LC p l s m meth c b L xs ad D cA) (hs : SIM μ) (h1 : vp_in (x + 1) L) (h2 : vp_in (x + 2) L) (h3 : vp_in (x + 3) L) (kk : ∀ μ, SIM μ → LW p l e s m below meth c b ad D cA x 1095 [] μ) : LW p l e s m below meth c b ad D cA x 519 [] μ := by
  refine lw_c C0 dL_519 ?_
  refine lw_arg C0 1 (by decide +kernel) h1 ⟨dL_520, dL_521, dL_522, dL_523, dL_524⟩ ?_
  refine lw_arg C0 2 (by decide +kernel) h2 ⟨dL_525, dL_526, dL_527, dL_528, dL_529⟩ ?_
  refine lw_arg C0 3 (by decide +kernel) h3 ⟨dL_530, dL_531, dL_532, dL_533, dL_534⟩ ?_
  refine lw_case (M1 := mX8_fromTwo) (M2 := mX9_fromTwo) (args := [vI (lw_w xs x 1), vI (lw_w xs x 2), vI (lw_w xs x 3)]) (pc1 := 535) (pc2 := 554) C0 (sim_of fun S H K T ok => op_fromTwo (lw_w xs x 1) (lw_w xs x 2) (lw_w xs x 3) ok) hs (by simp [xvok]) lF1_fromTwo lF2_fromTwo dL_535 dL_554 dL_557 (by decide +kernel) (fun y μ hk => ?_) kk
  refine lw_m C0 dL_538 ?_
  refine lw_arg C0 1 (by decide +kernel) h1 ⟨dL_539, dL_540, dL_541, dL_542, dL_543⟩ ?_
  refine lw_arg C0 2 (by decide +kernel) h2 ⟨dL_544, dL_545, dL_546, dL_547, dL_548⟩ ?_
  refine lw_arg C0 3 (by decide +kernel) h3 ⟨dL_549, dL_550, dL_551, dL_552, dL_553⟩ ?_
  exact hk
theorem lF1_fromOne : LF (8, 0, 0) 73 mX8_fromOne 2 := ⟨xdX8_fromOne, rfl, xw 504 (by decide +kernel) (by decide +kernel), xw 505 (by decide +kernel) (by decide +kernel), xw 506 (by decide +kernel) (by decide +kernel), Or.inl ⟨rfl, rfl⟩⟩
theorem lF2_fromOne : LF (9, 0, 0) 76 mX9_fromOne 2 := ⟨xdX9_fromOne, rfl, xw 988 (by decide +kernel) (by decide +kernel), xw 989 (by decide +kernel) (by decide +kernel), xw 990 (by decide +kernel) (by decide +kernel), Or.inr ⟨rfl, rfl⟩⟩
theorem lk_fromOne (C0 : LC p l s m meth c b L xs ad D cA) (hs : SIM μ) (h1 : vp_in (x + 1) L) (h2 : vp_in (x + 2) L) (kk : ∀ μ, SIM μ → LW p l e s m below meth c b ad D cA x 1095 [] μ) : LW p l e s m below meth c b ad D cA x 562 [] μ := by
  refine lw_c C0 dL_562 ?_
  refine lw_arg C0 1 (by decide +kernel) h1 ⟨dL_563, dL_564, dL_565, dL_566, dL_567⟩ ?_
  refine lw_arg C0 2 (by decide +kernel) h2 ⟨dL_568, dL_569, dL_570, dL_571, dL_572⟩ ?_
  refine lw_case (M1 := mX8_fromOne) (M2 := mX9_fromOne) (args := [vI (lw_w xs x 1), vI (lw_w xs x 2)]) (pc1 := 573) (pc2 := 587) C0 (sim_of fun S H K T ok => op_fromOne (lw_w xs x 1) (lw_w xs x 2) ok) hs (by simp [xvok]) lF1_fromOne lF2_fromOne dL_573 dL_587 dL_590 (by decide +kernel) (fun y μ hk => ?_) kk
  refine lw_m C0 dL_576 ?_
  refine lw_arg C0 1 (by decide +kernel) h1 ⟨dL_577, dL_578, dL_579, dL_580, dL_581⟩ ?_
  refine lw_arg C0 2 (by decide +kernel) h2 ⟨dL_582, dL_583, dL_584, dL_585, dL_586⟩ ?_
  exact hk
theorem lF1_toFormula : LF (8, 0, 0) 77 mX8_toFormula 3 := ⟨xdX8_toFormula, rfl, xw 513 (by decide +kernel) (by decide +kernel), xw 514 (by decide +kernel) (by decide +kernel), xw 515 (by decide +kernel) (by decide +kernel), Or.inl ⟨rfl, rfl⟩⟩
theorem lF2_toFormula : LF (9, 0, 0) 80 mX9_toFormula 3 := ⟨xdX9_toFormula, rfl, xw 992 (by decide +kernel) (by decide +kernel), xw 993 (by decide +kernel) (by decide +kernel), xw 994 (by decide +kernel) (by decide +kernel), Or.inr ⟨rfl, rfl⟩⟩
theorem lk_toFormula (C0 : LC p l s m meth c b L xs ad D cA) (hs : SIM μ) (h1 : vp_in (x + 1) L) (h2 : vp_in (x + 2) L) (h3 : vp_in (x + 3) L) (kk : ∀ μ, SIM μ → LW p l e s m below meth c b ad D cA x 1095 [] μ) : LW p l e s m below meth c b ad D cA x 595 [] μ := by
  refine lw_c C0 dL_595 ?_
  refine lw_arg C0 1 (by decide +kernel) h1 ⟨dL_596, dL_597, dL_598, dL_599, dL_600⟩ ?_
  refine lw_arg C0 2 (by decide +kernel) h2 ⟨dL_601, dL_602, dL_603, dL_604, dL_605⟩ ?_
  refine lw_arg C0 3 (by decide +kernel) h3 ⟨dL_606, dL_607, dL_608, dL_609, dL_610⟩ ?_
  refine lw_case (M1 := mX8_toFormula) (M2 := mX9_toFormula) (args := [vI (lw_w xs x 1), vI (lw_w xs x 2), vI (lw_w xs x 3)]) (pc1 := 611) (pc2 := 630) C0 (sim_of fun S H K T ok => op_toFormula (lw_w xs x 1) (lw_w xs x 2) (lw_w xs x 3) ok) hs (by simp [xvok]) lF1_toFormula lF2_toFormula dL_611 dL_630 dL_633 (by decide +kernel) (fun y μ hk => ?_) kk
  refine lw_m C0 dL_614 ?_
  refine lw_arg C0 1 (by decide +kernel) h1 ⟨dL_615, dL_616, dL_617, dL_618, dL_619⟩ ?_
  refine lw_arg C0 2 (by decide +kernel) h2 ⟨dL_620, dL_621, dL_622, dL_623, dL_624⟩ ?_
  refine lw_arg C0 3 (by decide +kernel) h3 ⟨dL_625, dL_626, dL_627, dL_628, dL_629⟩ ?_
  exact hk
theorem lF1_fromBox : LF (8, 0, 0) 81 mX8_fromBox 2 := ⟨xdX8_fromBox, rfl, xw 521 (by decide +kernel) (by decide +kernel), xw 522 (by decide +kernel) (by decide +kernel), xw 523 (by decide +kernel) (by decide +kernel), Or.inl ⟨rfl, rfl⟩⟩
theorem lF2_fromBox : LF (9, 0, 0) 84 mX9_fromBox 2 := ⟨xdX9_fromBox, rfl, xw 996 (by decide +kernel) (by decide +kernel), xw 997 (by decide +kernel) (by decide +kernel), xw 998 (by decide +kernel) (by decide +kernel), Or.inr ⟨rfl, rfl⟩⟩
theorem lk_fromBox (C0 : LC p l s m meth c b L xs ad D cA) (hs : SIM μ) (h1 : vp_in (x + 1) L) (h2 : vp_in (x + 2) L) (kk : ∀ μ, SIM μ → LW p l e s m below meth c b ad D cA x 1095 [] μ) : LW p l e s m below meth c b ad D cA x 638 [] μ := by
  refine lw_c C0 dL_638 ?_
  refine lw_arg C0 1 (by decide +kernel) h1 ⟨dL_639, dL_640, dL_641, dL_642, dL_643⟩ ?_
  refine lw_arg C0 2 (by decide +kernel) h2 ⟨dL_644, dL_645, dL_646, dL_647, dL_648⟩ ?_
  refine lw_case (M1 := mX8_fromBox) (M2 := mX9_fromBox) (args := [vI (lw_w xs x 1), vI (lw_w xs x 2)]) (pc1 := 649) (pc2 := 663) C0 (sim_of fun S H K T ok => op_fromBox (lw_w xs x 1) (lw_w xs x 2) ok) hs (by simp [xvok]) lF1_fromBox lF2_fromBox dL_649 dL_663 dL_666 (by decide +kernel) (fun y μ hk => ?_) kk
  refine lw_m C0 dL_652 ?_
  refine lw_arg C0 1 (by decide +kernel) h1 ⟨dL_653, dL_654, dL_655, dL_656, dL_657⟩ ?_
  refine lw_arg C0 2 (by decide +kernel) h2 ⟨dL_658, dL_659, dL_660, dL_661, dL_662⟩ ?_
  exact hk
theorem lF1_cases : LF (8, 0, 0) 85 mX8_cases 3 := ⟨xdX8_cases, rfl, xw 538 (by decide +kernel) (by decide +kernel), xw 539 (by decide +kernel) (by decide +kernel), xw 540 (by decide +kernel) (by decide +kernel), Or.inl ⟨rfl, rfl⟩⟩
theorem lF2_cases : LF (9, 0, 0) 88 mX9_cases 3 := ⟨xdX9_cases, rfl, xw 1012 (by decide +kernel) (by decide +kernel), xw 1013 (by decide +kernel) (by decide +kernel), xw 1014 (by decide +kernel) (by decide +kernel), Or.inr ⟨rfl, rfl⟩⟩
theorem lk_cases (C0 : LC p l s m meth c b L xs ad D cA) (hs : SIM μ) (h1 : vp_in (x + 1) L) (h2 : vp_in (x + 2) L) (h3 : vp_in (x + 3) L) (kk : ∀ μ, SIM μ → LW p l e s m below meth c b ad D cA x 1095 [] μ) : LW p l e s m below meth c b ad D cA x 671 [] μ := by
  refine lw_c C0 dL_671 ?_
  refine lw_arg C0 1 (by decide +kernel) h1 ⟨dL_672, dL_673, dL_674, dL_675, dL_676⟩ ?_
  refine lw_arg C0 2 (by decide +kernel) h2 ⟨dL_677, dL_678, dL_679, dL_680, dL_681⟩ ?_
  refine lw_arg C0 3 (by decide +kernel) h3 ⟨dL_682, dL_683, dL_684, dL_685, dL_686⟩ ?_
  refine lw_case (M1 := mX8_cases) (M2 := mX9_cases) (args := [vI (lw_w xs x 1), vI (lw_w xs x 2), vI (lw_w xs x 3)]) (pc1 := 687) (pc2 := 706) C0 (sim_of fun S H K T ok => op_cases (lw_w xs x 1) (lw_w xs x 2) (lw_w xs x 3) ok) hs (by simp [xvok]) lF1_cases lF2_cases dL_687 dL_706 dL_709 (by decide +kernel) (fun y μ hk => ?_) kk
  refine lw_m C0 dL_690 ?_
  refine lw_arg C0 1 (by decide +kernel) h1 ⟨dL_691, dL_692, dL_693, dL_694, dL_695⟩ ?_
  refine lw_arg C0 2 (by decide +kernel) h2 ⟨dL_696, dL_697, dL_698, dL_699, dL_700⟩ ?_
  refine lw_arg C0 3 (by decide +kernel) h3 ⟨dL_701, dL_702, dL_703, dL_704, dL_705⟩ ?_
  exact hk
theorem lF1_lines : LF (8, 0, 0) 89 mX8_lines 0 := ⟨xdX8_lines, rfl, xw 542 (by decide +kernel) (by decide +kernel), xw 543 (by decide +kernel) (by decide +kernel), xw 544 (by decide +kernel) (by decide +kernel), Or.inl ⟨rfl, rfl⟩⟩
theorem lF2_lines : LF (9, 0, 0) 92 mX9_lines 0 := ⟨xdX9_lines, rfl, xw 1016 (by decide +kernel) (by decide +kernel), xw 1017 (by decide +kernel) (by decide +kernel), xw 1018 (by decide +kernel) (by decide +kernel), Or.inr ⟨rfl, rfl⟩⟩
theorem lk_lines (C0 : LC p l s m meth c b L xs ad D cA) (hs : SIM μ) (kk : ∀ μ, SIM μ → LW p l e s m below meth c b ad D cA x 1095 [] μ) : LW p l e s m below meth c b ad D cA x 714 [] μ := by
  refine lw_c C0 dL_714 ?_
  refine lw_case (M1 := mX8_lines) (M2 := mX9_lines) (args := []) (pc1 := 715) (pc2 := 719) C0 (sim_of fun S H K T ok => op_lines ok) hs (fun v hv => absurd hv List.not_mem_nil) lF1_lines lF2_lines dL_715 dL_719 dL_722 (by decide +kernel) (fun y μ hk => ?_) kk
  refine lw_m C0 dL_718 ?_
  exact hk
theorem lF1_line : LF (8, 0, 0) 93 mX8_line 2 := ⟨xdX8_line, rfl, xw 546 (by decide +kernel) (by decide +kernel), xw 547 (by decide +kernel) (by decide +kernel), xw 548 (by decide +kernel) (by decide +kernel), Or.inl ⟨rfl, rfl⟩⟩
theorem lF2_line : LF (9, 0, 0) 96 mX9_line 2 := ⟨xdX9_line, rfl, xw 1020 (by decide +kernel) (by decide +kernel), xw 1021 (by decide +kernel) (by decide +kernel), xw 1022 (by decide +kernel) (by decide +kernel), Or.inr ⟨rfl, rfl⟩⟩
theorem lk_line (C0 : LC p l s m meth c b L xs ad D cA) (hs : SIM μ) (h1 : vp_in (x + 1) L) (h2 : vp_in (x + 2) L) (kk : ∀ μ, SIM μ → LW p l e s m below meth c b ad D cA x 1095 [] μ) : LW p l e s m below meth c b ad D cA x 727 [] μ := by
  refine lw_c C0 dL_727 ?_
  refine lw_arg C0 1 (by decide +kernel) h1 ⟨dL_728, dL_729, dL_730, dL_731, dL_732⟩ ?_
  refine lw_arg C0 2 (by decide +kernel) h2 ⟨dL_733, dL_734, dL_735, dL_736, dL_737⟩ ?_
  refine lw_case (M1 := mX8_line) (M2 := mX9_line) (args := [vI (lw_w xs x 1), vI (lw_w xs x 2)]) (pc1 := 738) (pc2 := 752) C0 (sim_of fun S H K T ok => op_line (lw_w xs x 1) (lw_w xs x 2) ok) hs (by simp [xvok]) lF1_line lF2_line dL_738 dL_752 dL_755 (by decide +kernel) (fun y μ hk => ?_) kk
  refine lw_m C0 dL_741 ?_
  refine lw_arg C0 1 (by decide +kernel) h1 ⟨dL_742, dL_743, dL_744, dL_745, dL_746⟩ ?_
  refine lw_arg C0 2 (by decide +kernel) h2 ⟨dL_747, dL_748, dL_749, dL_750, dL_751⟩ ?_
  exact hk
theorem lF1_reference : LF (8, 0, 0) 97 mX8_reference 2 := ⟨xdX8_reference, rfl, xw 572 (by decide +kernel) (by decide +kernel), xw 573 (by decide +kernel) (by decide +kernel), xw 574 (by decide +kernel) (by decide +kernel), Or.inl ⟨rfl, rfl⟩⟩
theorem lF2_reference : LF (9, 0, 0) 100 mX9_reference 2 := ⟨xdX9_reference, rfl, xw 1048 (by decide +kernel) (by decide +kernel), xw 1049 (by decide +kernel) (by decide +kernel), xw 1050 (by decide +kernel) (by decide +kernel), Or.inr ⟨rfl, rfl⟩⟩
theorem lk_reference (C0 : LC p l s m meth c b L xs ad D cA) (hs : SIM μ) (h1 : vp_in (x + 1) L) (h2 : vp_in (x + 2) L) (kk : ∀ μ, SIM μ → LW p l e s m below meth c b ad D cA x 1095 [] μ) : LW p l e s m below meth c b ad D cA x 760 [] μ := by
  refine lw_c C0 dL_760 ?_
  refine lw_arg C0 1 (by decide +kernel) h1 ⟨dL_761, dL_762, dL_763, dL_764, dL_765⟩ ?_
  refine lw_arg C0 2 (by decide +kernel) h2 ⟨dL_766, dL_767, dL_768, dL_769, dL_770⟩ ?_
  refine lw_case (M1 := mX8_reference) (M2 := mX9_reference) (args := [vI (lw_w xs x 1), vI (lw_w xs x 2)]) (pc1 := 771) (pc2 := 785) C0 (sim_of fun S H K T ok => op_reference (lw_w xs x 1) (lw_w xs x 2) ok) hs (by simp [xvok]) lF1_reference lF2_reference dL_771 dL_785 dL_788 (by decide +kernel) (fun y μ hk => ?_) kk
  refine lw_m C0 dL_774 ?_
  refine lw_arg C0 1 (by decide +kernel) h1 ⟨dL_775, dL_776, dL_777, dL_778, dL_779⟩ ?_
  refine lw_arg C0 2 (by decide +kernel) h2 ⟨dL_780, dL_781, dL_782, dL_783, dL_784⟩ ?_
  exact hk
theorem lF1_boxes : LF (8, 0, 0) 101 mX8_boxes 0 := ⟨xdX8_boxes, rfl, xw 577 (by decide +kernel) (by decide +kernel), xw 578 (by decide +kernel) (by decide +kernel), xw 579 (by decide +kernel) (by decide +kernel), Or.inl ⟨rfl, rfl⟩⟩
theorem lF2_boxes : LF (9, 0, 0) 104 mX9_boxes 0 := ⟨xdX9_boxes, rfl, xw 1052 (by decide +kernel) (by decide +kernel), xw 1053 (by decide +kernel) (by decide +kernel), xw 1054 (by decide +kernel) (by decide +kernel), Or.inr ⟨rfl, rfl⟩⟩
theorem lk_boxes (C0 : LC p l s m meth c b L xs ad D cA) (hs : SIM μ) (kk : ∀ μ, SIM μ → LW p l e s m below meth c b ad D cA x 1095 [] μ) : LW p l e s m below meth c b ad D cA x 793 [] μ := by
  refine lw_c C0 dL_793 ?_
  refine lw_case (M1 := mX8_boxes) (M2 := mX9_boxes) (args := []) (pc1 := 794) (pc2 := 798) C0 (sim_of fun S H K T ok => op_boxes ok) hs (fun v hv => absurd hv List.not_mem_nil) lF1_boxes lF2_boxes dL_794 dL_798 dL_801 (by decide +kernel) (fun y μ hk => ?_) kk
  refine lw_m C0 dL_797 ?_
  exact hk
theorem lF1_box : LF (8, 0, 0) 105 mX8_box 2 := ⟨xdX8_box, rfl, xw 581 (by decide +kernel) (by decide +kernel), xw 582 (by decide +kernel) (by decide +kernel), xw 583 (by decide +kernel) (by decide +kernel), Or.inl ⟨rfl, rfl⟩⟩
theorem lF2_box : LF (9, 0, 0) 108 mX9_box 2 := ⟨xdX9_box, rfl, xw 1056 (by decide +kernel) (by decide +kernel), xw 1057 (by decide +kernel) (by decide +kernel), xw 1058 (by decide +kernel) (by decide +kernel), Or.inr ⟨rfl, rfl⟩⟩
theorem lk_box (C0 : LC p l s m meth c b L xs ad D cA) (hs : SIM μ) (h1 : vp_in (x + 1) L) (h2 : vp_in (x + 2) L) (kk : ∀ μ, SIM μ → LW p l e s m below meth c b ad D cA x 1095 [] μ) : LW p l e s m below meth c b ad D cA x 806 [] μ := by
  refine lw_c C0 dL_806 ?_
  refine lw_arg C0 1 (by decide +kernel) h1 ⟨dL_807, dL_808, dL_809, dL_810, dL_811⟩ ?_
  refine lw_arg C0 2 (by decide +kernel) h2 ⟨dL_812, dL_813, dL_814, dL_815, dL_816⟩ ?_
  refine lw_case (M1 := mX8_box) (M2 := mX9_box) (args := [vI (lw_w xs x 1), vI (lw_w xs x 2)]) (pc1 := 817) (pc2 := 831) C0 (sim_of fun S H K T ok => op_box (lw_w xs x 1) (lw_w xs x 2) ok) hs (by simp [xvok]) lF1_box lF2_box dL_817 dL_831 dL_834 (by decide +kernel) (fun y μ hk => ?_) kk
  refine lw_m C0 dL_820 ?_
  refine lw_arg C0 1 (by decide +kernel) h1 ⟨dL_821, dL_822, dL_823, dL_824, dL_825⟩ ?_
  refine lw_arg C0 2 (by decide +kernel) h2 ⟨dL_826, dL_827, dL_828, dL_829, dL_830⟩ ?_
  exact hk
theorem lF1_depth : LF (8, 0, 0) 109 mX8_depth 0 := ⟨xdX8_depth, rfl, xw 585 (by decide +kernel) (by decide +kernel), xw 447 (by decide +kernel) (by decide +kernel), xw 448 (by decide +kernel) (by decide +kernel), Or.inl ⟨rfl, rfl⟩⟩
theorem lF2_depth : LF (9, 0, 0) 112 mX9_depth 0 := ⟨xdX9_depth, rfl, xw 1060 (by decide +kernel) (by decide +kernel), xw 1061 (by decide +kernel) (by decide +kernel), xw 1062 (by decide +kernel) (by decide +kernel), Or.inr ⟨rfl, rfl⟩⟩
theorem lk_depth (C0 : LC p l s m meth c b L xs ad D cA) (hs : SIM μ) (kk : ∀ μ, SIM μ → LW p l e s m below meth c b ad D cA x 1095 [] μ) : LW p l e s m below meth c b ad D cA x 839 [] μ := by
  refine lw_c C0 dL_839 ?_
  refine lw_case (M1 := mX8_depth) (M2 := mX9_depth) (args := []) (pc1 := 840) (pc2 := 844) C0 (sim_of fun S H K T ok => op_depth ok) hs (fun v hv => absurd hv List.not_mem_nil) lF1_depth lF2_depth dL_840 dL_844 dL_847 (by decide +kernel) (fun y μ hk => ?_) kk
  refine lw_m C0 dL_843 ?_
  exact hk
theorem lF1_needs : LF (8, 0, 0) 113 mX8_needs 1 := ⟨xdX8_needs, rfl, xw 586 (by decide +kernel) (by decide +kernel), xw 587 (by decide +kernel) (by decide +kernel), xw 588 (by decide +kernel) (by decide +kernel), Or.inl ⟨rfl, rfl⟩⟩
theorem lF2_needs : LF (9, 0, 0) 117 mX9_needs 1 := ⟨xdX9_needs, rfl, xw 1064 (by decide +kernel) (by decide +kernel), xw 1065 (by decide +kernel) (by decide +kernel), xw 1066 (by decide +kernel) (by decide +kernel), Or.inr ⟨rfl, rfl⟩⟩
theorem lk_needs (C0 : LC p l s m meth c b L xs ad D cA) (hs : SIM μ) (h1 : vp_in (x + 1) L) (kk : ∀ μ, SIM μ → LW p l e s m below meth c b ad D cA x 1095 [] μ) : LW p l e s m below meth c b ad D cA x 852 [] μ := by
  refine lw_c C0 dL_852 ?_
  refine lw_arg C0 1 (by decide +kernel) h1 ⟨dL_853, dL_854, dL_855, dL_856, dL_857⟩ ?_
  refine lw_caseL (M1 := mX8_needs) (M2 := mX9_needs) (args := [vI (lw_w xs x 1)]) (pc1 := 858) (pc2 := 867) C0 (op_needs (lw_w xs x 1)) hs (by simp [xvok]) lF1_needs lF2_needs dL_858 dL_867 dL_870 dL_871 (by decide +kernel) (fun y μ hk => ?_) kk
  refine lw_m C0 dL_861 ?_
  refine lw_arg C0 1 (by decide +kernel) h1 ⟨dL_862, dL_863, dL_864, dL_865, dL_866⟩ ?_
  exact hk
theorem lF1_bypass : LF (8, 0, 0) 118 mX8_bypass 1 := ⟨xdX8_bypass, rfl, xw 599 (by decide +kernel) (by decide +kernel), xw 600 (by decide +kernel) (by decide +kernel), xw 601 (by decide +kernel) (by decide +kernel), Or.inl ⟨rfl, rfl⟩⟩
theorem lF2_bypass : LF (9, 0, 0) 121 mX9_bypass 1 := ⟨xdX9_bypass, rfl, xw 1077 (by decide +kernel) (by decide +kernel), xw 1078 (by decide +kernel) (by decide +kernel), xw 1079 (by decide +kernel) (by decide +kernel), Or.inr ⟨rfl, rfl⟩⟩
theorem lk_bypass (C0 : LC p l s m meth c b L xs ad D cA) (hs : SIM μ) (h1 : vp_in (x + 1) L) (kk : ∀ μ, SIM μ → LW p l e s m below meth c b ad D cA x 1095 [] μ) : LW p l e s m below meth c b ad D cA x 876 [] μ := by
  refine lw_c C0 dL_876 ?_
  refine lw_arg C0 1 (by decide +kernel) h1 ⟨dL_877, dL_878, dL_879, dL_880, dL_881⟩ ?_
  refine lw_case (M1 := mX8_bypass) (M2 := mX9_bypass) (args := [vI (lw_w xs x 1)]) (pc1 := 882) (pc2 := 891) C0 (sim_of fun S H K T ok => op_bypass (lw_w xs x 1) ok) hs (by simp [xvok]) lF1_bypass lF2_bypass dL_882 dL_891 dL_894 (by decide +kernel) (fun y μ hk => ?_) kk
  refine lw_m C0 dL_885 ?_
  refine lw_arg C0 1 (by decide +kernel) h1 ⟨dL_886, dL_887, dL_888, dL_889, dL_890⟩ ?_
  exact hk
theorem lF1_detours : LF (8, 0, 0) 122 mX8_detours 0 := ⟨xdX8_detours, rfl, xw 607 (by decide +kernel) (by decide +kernel), xw 608 (by decide +kernel) (by decide +kernel), xw 609 (by decide +kernel) (by decide +kernel), Or.inl ⟨rfl, rfl⟩⟩
theorem lF2_detours : LF (9, 0, 0) 125 mX9_detours 0 := ⟨xdX9_detours, rfl, xw 1085 (by decide +kernel) (by decide +kernel), xw 1086 (by decide +kernel) (by decide +kernel), xw 1087 (by decide +kernel) (by decide +kernel), Or.inr ⟨rfl, rfl⟩⟩
theorem lk_detours (C0 : LC p l s m meth c b L xs ad D cA) (hs : SIM μ) (kk : ∀ μ, SIM μ → LW p l e s m below meth c b ad D cA x 1095 [] μ) : LW p l e s m below meth c b ad D cA x 899 [] μ := by
  refine lw_c C0 dL_899 ?_
  refine lw_case (M1 := mX8_detours) (M2 := mX9_detours) (args := []) (pc1 := 900) (pc2 := 904) C0 (sim_of fun S H K T ok => op_detours ok) hs (fun v hv => absurd hv List.not_mem_nil) lF1_detours lF2_detours dL_900 dL_904 dL_907 (by decide +kernel) (fun y μ hk => ?_) kk
  refine lw_m C0 dL_903 ?_
  exact hk
theorem lF1_failure : LF (8, 0, 0) 126 mX8_failure 1 := ⟨xdX8_failure, rfl, xw 616 (by decide +kernel) (by decide +kernel), xw 617 (by decide +kernel) (by decide +kernel), xw 618 (by decide +kernel) (by decide +kernel), Or.inl ⟨rfl, rfl⟩⟩
theorem lF2_failure : LF (9, 0, 0) 129 mX9_failure 1 := ⟨xdX9_failure, rfl, xw 1089 (by decide +kernel) (by decide +kernel), xw 1090 (by decide +kernel) (by decide +kernel), xw 1091 (by decide +kernel) (by decide +kernel), Or.inr ⟨rfl, rfl⟩⟩
theorem lk_failure (C0 : LC p l s m meth c b L xs ad D cA) (hs : SIM μ) (h1 : vp_in (x + 1) L) (kk : ∀ μ, SIM μ → LW p l e s m below meth c b ad D cA x 1095 [] μ) : LW p l e s m below meth c b ad D cA x 912 [] μ := by
  refine lw_c C0 dL_912 ?_
  refine lw_arg C0 1 (by decide +kernel) h1 ⟨dL_913, dL_914, dL_915, dL_916, dL_917⟩ ?_
  refine lw_case (M1 := mX8_failure) (M2 := mX9_failure) (args := [vI (lw_w xs x 1)]) (pc1 := 918) (pc2 := 927) C0 (sim_of fun S H K T ok => op_failure (lw_w xs x 1) ok) hs (by simp [xvok]) lF1_failure lF2_failure dL_918 dL_927 dL_930 (by decide +kernel) (fun y μ hk => ?_) kk
  refine lw_m C0 dL_921 ?_
  refine lw_arg C0 1 (by decide +kernel) h1 ⟨dL_922, dL_923, dL_924, dL_925, dL_926⟩ ?_
  exact hk
theorem lF1_counterexample : LF (8, 0, 0) 130 mX8_counterexample 1 := ⟨xdX8_counterexample, rfl, xw 637 (by decide +kernel) (by decide +kernel), xw 638 (by decide +kernel) (by decide +kernel), xw 639 (by decide +kernel) (by decide +kernel), Or.inl ⟨rfl, rfl⟩⟩
theorem lF2_counterexample : LF (9, 0, 0) 133 mX9_counterexample 1 := ⟨xdX9_counterexample, rfl, xw 1105 (by decide +kernel) (by decide +kernel), xw 1106 (by decide +kernel) (by decide +kernel), xw 1107 (by decide +kernel) (by decide +kernel), Or.inr ⟨rfl, rfl⟩⟩
theorem lk_counterexample (C0 : LC p l s m meth c b L xs ad D cA) (hs : SIM μ) (h1 : vp_in (x + 1) L) (kk : ∀ μ, SIM μ → LW p l e s m below meth c b ad D cA x 1095 [] μ) : LW p l e s m below meth c b ad D cA x 935 [] μ := by
  refine lw_c C0 dL_935 ?_
  refine lw_arg C0 1 (by decide +kernel) h1 ⟨dL_936, dL_937, dL_938, dL_939, dL_940⟩ ?_
  refine lw_case (M1 := mX8_counterexample) (M2 := mX9_counterexample) (args := [vI (lw_w xs x 1)]) (pc1 := 941) (pc2 := 950) C0 (sim_of fun S H K T ok => op_counterexample (lw_w xs x 1) ok) hs (by simp [xvok]) lF1_counterexample lF2_counterexample dL_941 dL_950 dL_953 (by decide +kernel) (fun y μ hk => ?_) kk
  refine lw_m C0 dL_944 ?_
  refine lw_arg C0 1 (by decide +kernel) h1 ⟨dL_945, dL_946, dL_947, dL_948, dL_949⟩ ?_
  exact hk
theorem lF1_shorten : LF (8, 0, 0) 134 mX8_shorten 0 := ⟨xdX8_shorten, rfl, xw 641 (by decide +kernel) (by decide +kernel), xw 642 (by decide +kernel) (by decide +kernel), xw 643 (by decide +kernel) (by decide +kernel), Or.inl ⟨rfl, rfl⟩⟩
theorem lF2_shorten : LF (9, 0, 0) 137 mX9_shorten 0 := ⟨xdX9_shorten, rfl, xw 1109 (by decide +kernel) (by decide +kernel), xw 1110 (by decide +kernel) (by decide +kernel), xw 1111 (by decide +kernel) (by decide +kernel), Or.inr ⟨rfl, rfl⟩⟩
theorem lk_shorten (C0 : LC p l s m meth c b L xs ad D cA) (hs : SIM μ) (kk : ∀ μ, SIM μ → LW p l e s m below meth c b ad D cA x 1095 [] μ) : LW p l e s m below meth c b ad D cA x 958 [] μ := by
  refine lw_c C0 dL_958 ?_
  refine lw_case (M1 := mX8_shorten) (M2 := mX9_shorten) (args := []) (pc1 := 959) (pc2 := 963) C0 (sim_of fun S H K T ok => op_shorten ok) hs (fun v hv => absurd hv List.not_mem_nil) lF1_shorten lF2_shorten dL_959 dL_963 dL_966 (by decide +kernel) (fun y μ hk => ?_) kk
  refine lw_m C0 dL_962 ?_
  exact hk
theorem lF1_trim : LF (8, 0, 0) 138 mX8_trim 1 := ⟨xdX8_trim, rfl, xw 653 (by decide +kernel) (by decide +kernel), xw 654 (by decide +kernel) (by decide +kernel), xw 655 (by decide +kernel) (by decide +kernel), Or.inl ⟨rfl, rfl⟩⟩
theorem lF2_trim : LF (9, 0, 0) 141 mX9_trim 1 := ⟨xdX9_trim, rfl, xw 1113 (by decide +kernel) (by decide +kernel), xw 1114 (by decide +kernel) (by decide +kernel), xw 1115 (by decide +kernel) (by decide +kernel), Or.inr ⟨rfl, rfl⟩⟩
theorem lk_trim (C0 : LC p l s m meth c b L xs ad D cA) (hs : SIM μ) (h1 : vp_in (x + 1) L) (kk : ∀ μ, SIM μ → LW p l e s m below meth c b ad D cA x 1095 [] μ) : LW p l e s m below meth c b ad D cA x 971 [] μ := by
  refine lw_c C0 dL_971 ?_
  refine lw_arg C0 1 (by decide +kernel) h1 ⟨dL_972, dL_973, dL_974, dL_975, dL_976⟩ ?_
  refine lw_case (M1 := mX8_trim) (M2 := mX9_trim) (args := [vI (lw_w xs x 1)]) (pc1 := 977) (pc2 := 986) C0 (sim_of fun S H K T ok => op_trim (lw_w xs x 1) ok) hs (by simp [xvok]) lF1_trim lF2_trim dL_977 dL_986 dL_989 (by decide +kernel) (fun y μ hk => ?_) kk
  refine lw_m C0 dL_980 ?_
  refine lw_arg C0 1 (by decide +kernel) h1 ⟨dL_981, dL_982, dL_983, dL_984, dL_985⟩ ?_
  exact hk
theorem lF1_append : LF (8, 0, 0) 142 mX8_append 1 := ⟨xdX8_append, rfl, xw 682 (by decide +kernel) (by decide +kernel), xw 683 (by decide +kernel) (by decide +kernel), xw 684 (by decide +kernel) (by decide +kernel), Or.inl ⟨rfl, rfl⟩⟩
theorem lF2_append : LF (9, 0, 0) 145 mX9_append 1 := ⟨xdX9_append, rfl, xw 1137 (by decide +kernel) (by decide +kernel), xw 1138 (by decide +kernel) (by decide +kernel), xw 1139 (by decide +kernel) (by decide +kernel), Or.inr ⟨rfl, rfl⟩⟩
theorem lk_append (C0 : LC p l s m meth c b L xs ad D cA) (hs : SIM μ) (h1 : vp_in (x + 1) L) (kk : ∀ μ, SIM μ → LW p l e s m below meth c b ad D cA x 1095 [] μ) : LW p l e s m below meth c b ad D cA x 994 [] μ := by
  refine lw_c C0 dL_994 ?_
  refine lw_arg C0 1 (by decide +kernel) h1 ⟨dL_995, dL_996, dL_997, dL_998, dL_999⟩ ?_
  refine lw_case (M1 := mX8_append) (M2 := mX9_append) (args := [vI (lw_w xs x 1)]) (pc1 := 1000) (pc2 := 1009) C0 (sim_of fun S H K T ok => op_append (lw_w xs x 1) ok) hs (by simp [xvok]) lF1_append lF2_append dL_1000 dL_1009 dL_1012 (by decide +kernel) (fun y μ hk => ?_) kk
  refine lw_m C0 dL_1003 ?_
  refine lw_arg C0 1 (by decide +kernel) h1 ⟨dL_1004, dL_1005, dL_1006, dL_1007, dL_1008⟩ ?_
  exact hk
theorem lF1_clearText : LF (8, 0, 0) 146 mX8_clearText 0 := ⟨xdX8_clearText, rfl, xw 691 (by decide +kernel) (by decide +kernel), xw 692 (by decide +kernel) (by decide +kernel), xw 693 (by decide +kernel) (by decide +kernel), Or.inl ⟨rfl, rfl⟩⟩
theorem lF2_clearText : LF (9, 0, 0) 149 mX9_clearText 0 := ⟨xdX9_clearText, rfl, xw 1141 (by decide +kernel) (by decide +kernel), xw 1142 (by decide +kernel) (by decide +kernel), xw 1143 (by decide +kernel) (by decide +kernel), Or.inr ⟨rfl, rfl⟩⟩
theorem lk_clearText (C0 : LC p l s m meth c b L xs ad D cA) (hs : SIM μ) (kk : ∀ μ, SIM μ → LW p l e s m below meth c b ad D cA x 1095 [] μ) : LW p l e s m below meth c b ad D cA x 1017 [] μ := by
  refine lw_c C0 dL_1017 ?_
  refine lw_case (M1 := mX8_clearText) (M2 := mX9_clearText) (args := []) (pc1 := 1018) (pc2 := 1022) C0 (sim_of fun S H K T ok => op_clearText ok) hs (fun v hv => absurd hv List.not_mem_nil) lF1_clearText lF2_clearText dL_1018 dL_1022 dL_1025 (by decide +kernel) (fun y μ hk => ?_) kk
  refine lw_m C0 dL_1021 ?_
  exact hk
theorem lF1_errorPosition : LF (8, 0, 0) 150 mX8_errorPosition 0 := ⟨xdX8_errorPosition, rfl, xw 695 (by decide +kernel) (by decide +kernel), xw 696 (by decide +kernel) (by decide +kernel), xw 697 (by decide +kernel) (by decide +kernel), Or.inl ⟨rfl, rfl⟩⟩
theorem lF2_errorPosition : LF (9, 0, 0) 153 mX9_errorPosition 0 := ⟨xdX9_errorPosition, rfl, xw 1145 (by decide +kernel) (by decide +kernel), xw 1146 (by decide +kernel) (by decide +kernel), xw 1147 (by decide +kernel) (by decide +kernel), Or.inr ⟨rfl, rfl⟩⟩
theorem lk_errorPosition (C0 : LC p l s m meth c b L xs ad D cA) (hs : SIM μ) (kk : ∀ μ, SIM μ → LW p l e s m below meth c b ad D cA x 1095 [] μ) : LW p l e s m below meth c b ad D cA x 1030 [] μ := by
  refine lw_c C0 dL_1030 ?_
  refine lw_case (M1 := mX8_errorPosition) (M2 := mX9_errorPosition) (args := []) (pc1 := 1031) (pc2 := 1035) C0 (sim_of fun S H K T ok => op_errorPosition ok) hs (fun v hv => absurd hv List.not_mem_nil) lF1_errorPosition lF2_errorPosition dL_1031 dL_1035 dL_1038 (by decide +kernel) (fun y μ hk => ?_) kk
  refine lw_m C0 dL_1034 ?_
  exact hk
theorem lF1_read : LF (8, 0, 0) 154 mX8_read 0 := ⟨xdX8_read, rfl, xw 715 (by decide +kernel) (by decide +kernel), xw 716 (by decide +kernel) (by decide +kernel), xw 717 (by decide +kernel) (by decide +kernel), Or.inl ⟨rfl, rfl⟩⟩
theorem lF2_read : LF (9, 0, 0) 157 mX9_read 0 := ⟨xdX9_read, rfl, xw 1168 (by decide +kernel) (by decide +kernel), xw 1169 (by decide +kernel) (by decide +kernel), xw 1170 (by decide +kernel) (by decide +kernel), Or.inr ⟨rfl, rfl⟩⟩
theorem lk_read (C0 : LC p l s m meth c b L xs ad D cA) (hs : SIM μ) (kk : ∀ μ, SIM μ → LW p l e s m below meth c b ad D cA x 1095 [] μ) : LW p l e s m below meth c b ad D cA x 1043 [] μ := by
  refine lw_c C0 dL_1043 ?_
  refine lw_case (M1 := mX8_read) (M2 := mX9_read) (args := []) (pc1 := 1044) (pc2 := 1048) C0 (sim_of fun S H K T ok => op_read ok) hs (fun v hv => absurd hv List.not_mem_nil) lF1_read lF2_read dL_1044 dL_1048 dL_1051 (by decide +kernel) (fun y μ hk => ?_) kk
  refine lw_m C0 dL_1047 ?_
  exact hk
theorem lF1_undo : LF (8, 0, 0) 158 mX8_undo 0 := ⟨xdX8_undo, rfl, xw 740 (by decide +kernel) (by decide +kernel), xw 741 (by decide +kernel) (by decide +kernel), xw 742 (by decide +kernel) (by decide +kernel), Or.inl ⟨rfl, rfl⟩⟩
theorem lF2_undo : LF (9, 0, 0) 161 mX9_undo 0 := ⟨xdX9_undo, rfl, xw 820 (by decide +kernel) (by decide +kernel), xw 821 (by decide +kernel) (by decide +kernel), xw 822 (by decide +kernel) (by decide +kernel), Or.inr ⟨rfl, rfl⟩⟩
theorem lk_undo (C0 : LC p l s m meth c b L xs ad D cA) (hs : SIM μ) (kk : ∀ μ, SIM μ → LW p l e s m below meth c b ad D cA x 1095 [] μ) : LW p l e s m below meth c b ad D cA x 1056 [] μ := by
  refine lw_c C0 dL_1056 ?_
  refine lw_case (M1 := mX8_undo) (M2 := mX9_undo) (args := []) (pc1 := 1057) (pc2 := 1061) C0 (sim_of fun S H K T ok => op_undo ok) hs (fun v hv => absurd hv List.not_mem_nil) lF1_undo lF2_undo dL_1057 dL_1061 dL_1064 (by decide +kernel) (fun y μ hk => ?_) kk
  refine lw_m C0 dL_1060 ?_
  exact hk
theorem lF1_save : LF (8, 0, 0) 162 mX8_save 0 := ⟨xdX8_save, rfl, xw 748 (by decide +kernel) (by decide +kernel), xw 749 (by decide +kernel) (by decide +kernel), xw 750 (by decide +kernel) (by decide +kernel), Or.inl ⟨rfl, rfl⟩⟩
theorem lF2_save : LF (9, 0, 0) 165 mX9_save 0 := ⟨xdX9_save, rfl, xw 824 (by decide +kernel) (by decide +kernel), xw 825 (by decide +kernel) (by decide +kernel), xw 826 (by decide +kernel) (by decide +kernel), Or.inr ⟨rfl, rfl⟩⟩
theorem lk_save (C0 : LC p l s m meth c b L xs ad D cA) (hs : SIM μ) (kk : ∀ μ, SIM μ → LW p l e s m below meth c b ad D cA x 1095 [] μ) : LW p l e s m below meth c b ad D cA x 1069 [] μ := by
  refine lw_c C0 dL_1069 ?_
  refine lw_case (M1 := mX8_save) (M2 := mX9_save) (args := []) (pc1 := 1070) (pc2 := 1074) C0 (sim_of fun S H K T ok => op_save ok) hs (fun v hv => absurd hv List.not_mem_nil) lF1_save lF2_save dL_1070 dL_1074 dL_1077 (by decide +kernel) (fun y μ hk => ?_) kk
  refine lw_m C0 dL_1073 ?_
  exact hk
theorem lF1_restore : LF (8, 0, 0) 166 mX8_restore 0 := ⟨xdX8_restore, rfl, xw 753 (by decide +kernel) (by decide +kernel), xw 754 (by decide +kernel) (by decide +kernel), xw 755 (by decide +kernel) (by decide +kernel), Or.inl ⟨rfl, rfl⟩⟩
theorem lF2_restore : LF (9, 0, 0) 169 mX9_restore 0 := ⟨xdX9_restore, rfl, xw 828 (by decide +kernel) (by decide +kernel), xw 829 (by decide +kernel) (by decide +kernel), xw 830 (by decide +kernel) (by decide +kernel), Or.inr ⟨rfl, rfl⟩⟩
theorem lk_restore (C0 : LC p l s m meth c b L xs ad D cA) (hs : SIM μ) (kk : ∀ μ, SIM μ → LW p l e s m below meth c b ad D cA x 1095 [] μ) : LW p l e s m below meth c b ad D cA x 1082 [] μ := by
  refine lw_c C0 dL_1082 ?_
  refine lw_case (M1 := mX8_restore) (M2 := mX9_restore) (args := []) (pc1 := 1083) (pc2 := 1087) C0 (sim_of fun S H K T ok => op_restore ok) hs (fun v hv => absurd hv List.not_mem_nil) lF1_restore lF2_restore dL_1083 dL_1087 dL_1090 (by decide +kernel) (fun y μ hk => ?_) kk
  refine lw_m C0 dL_1086 ?_
  exact hk
end
