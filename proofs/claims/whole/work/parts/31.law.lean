theorem dL_law_18 : decode cL_law 18 = .ok (.iload_n 3, 1) := by decide +kernel
theorem dL_law_19 : decode cL_law 19 = .ok (.aload_n 0, 1) := by decide +kernel
theorem dL_law_20 : decode cL_law 20 = .ok (.arraylength, 1) := by decide +kernel
theorem dL_law_21 : decode cL_law 21 = .ok (.iconst 5, 1) := by decide +kernel
theorem dL_law_22 : decode cL_law 22 = .ok (.isub, 1) := by decide +kernel
theorem dL_law_23 : decode cL_law 23 = .ok (.if_icmp .gt 1229, 3) := by decide +kernel
theorem dL_law_26 : decode cL_law 26 = .ok (.aload_n 0, 1) := by decide +kernel
theorem dL_law_27 : decode cL_law 27 = .ok (.iload_n 3, 1) := by decide +kernel
theorem dL_law_28 : decode cL_law 28 = .ok (.iaload, 1) := by decide +kernel
theorem dL_law_29 : decode cL_law 29 = .ok (.bipush 63, 2) := by decide +kernel
theorem dL_law_31 : decode cL_law 31 = .ok (.iand, 1) := by decide +kernel
theorem dL_law_32 : decode cL_law 32 = .ok (.tableswitch 1214 0 37 #[168, 181, 220, 263, 296, 319, 352, 375, 408, 431, 444, 477, 530, 579, 592, 615, 648, 681, 744, 757, 790, 813, 836, 869, 902, 915, 928, 961, 1004, 1017, 1030, 1043, 1066, 1089, 1112, 1125, 1148, 1191], 168) := by decide +kernel
theorem dL_law_200 : decode cL_law 200 = .ok (.aload_n 1, 1) := by decide +kernel
theorem dL_law_201 : decode cL_law 201 = .ok (.invokevirtual 13, 3) := by decide +kernel
theorem dL_law_204 : decode cL_law 204 = .ok (.aload_n 2, 1) := by decide +kernel
theorem dL_law_205 : decode cL_law 205 = .ok (.invokevirtual 17, 3) := by decide +kernel
theorem dL_law_208 : decode cL_law 208 = .ok (.if_icmp .eq 1038, 3) := by decide +kernel
theorem dL_law_211 : decode cL_law 211 = .ok (.iconst 0, 1) := by decide +kernel
theorem dL_law_212 : decode cL_law 212 = .ok (.ireturn, 1) := by decide +kernel
theorem dL_law_213 : decode cL_law 213 = .ok (.aload_n 1, 1) := by decide +kernel
theorem dL_law_214 : decode cL_law 214 = .ok (.aload_n 0, 1) := by decide +kernel
theorem dL_law_215 : decode cL_law 215 = .ok (.iload_n 3, 1) := by decide +kernel
theorem dL_law_216 : decode cL_law 216 = .ok (.iconst 1, 1) := by decide +kernel
theorem dL_law_217 : decode cL_law 217 = .ok (.iadd, 1) := by decide +kernel
theorem dL_law_218 : decode cL_law 218 = .ok (.iaload, 1) := by decide +kernel
theorem dL_law_219 : decode cL_law 219 = .ok (.ifCond .eq 7, 3) := by decide +kernel
theorem dL_law_222 : decode cL_law 222 = .ok (.iconst 1, 1) := by decide +kernel
theorem dL_law_223 : decode cL_law 223 = .ok (.goto 4, 3) := by decide +kernel
theorem dL_law_226 : decode cL_law 226 = .ok (.iconst 0, 1) := by decide +kernel
theorem dL_law_227 : decode cL_law 227 = .ok (.invokevirtual 18, 3) := by decide +kernel
theorem dL_law_230 : decode cL_law 230 = .ok (.aload_n 2, 1) := by decide +kernel
theorem dL_law_231 : decode cL_law 231 = .ok (.aload_n 0, 1) := by decide +kernel
theorem dL_law_232 : decode cL_law 232 = .ok (.iload_n 3, 1) := by decide +kernel
theorem dL_law_233 : decode cL_law 233 = .ok (.iconst 1, 1) := by decide +kernel
theorem dL_law_234 : decode cL_law 234 = .ok (.iadd, 1) := by decide +kernel
theorem dL_law_235 : decode cL_law 235 = .ok (.iaload, 1) := by decide +kernel
theorem dL_law_236 : decode cL_law 236 = .ok (.ifCond .eq 7, 3) := by decide +kernel
theorem dL_law_239 : decode cL_law 239 = .ok (.iconst 1, 1) := by decide +kernel
theorem dL_law_240 : decode cL_law 240 = .ok (.goto 4, 3) := by decide +kernel
theorem dL_law_243 : decode cL_law 243 = .ok (.iconst 0, 1) := by decide +kernel
theorem dL_law_244 : decode cL_law 244 = .ok (.invokevirtual 22, 3) := by decide +kernel
theorem dL_law_247 : decode cL_law 247 = .ok (.if_icmp .eq 999, 3) := by decide +kernel
theorem dL_law_250 : decode cL_law 250 = .ok (.iconst 0, 1) := by decide +kernel
theorem dL_law_251 : decode cL_law 251 = .ok (.ireturn, 1) := by decide +kernel
theorem dL_law_252 : decode cL_law 252 = .ok (.aload_n 1, 1) := by decide +kernel
theorem dL_law_253 : decode cL_law 253 = .ok (.aload_n 0, 1) := by decide +kernel
theorem dL_law_254 : decode cL_law 254 = .ok (.iload_n 3, 1) := by decide +kernel
theorem dL_law_255 : decode cL_law 255 = .ok (.iconst 1, 1) := by decide +kernel
theorem dL_law_256 : decode cL_law 256 = .ok (.iadd, 1) := by decide +kernel
theorem dL_law_257 : decode cL_law 257 = .ok (.iaload, 1) := by decide +kernel
theorem dL_law_258 : decode cL_law 258 = .ok (.aload_n 0, 1) := by decide +kernel
theorem dL_law_259 : decode cL_law 259 = .ok (.iload_n 3, 1) := by decide +kernel
theorem dL_law_260 : decode cL_law 260 = .ok (.iconst 2, 1) := by decide +kernel
theorem dL_law_261 : decode cL_law 261 = .ok (.iadd, 1) := by decide +kernel
theorem dL_law_262 : decode cL_law 262 = .ok (.iaload, 1) := by decide +kernel
theorem dL_law_263 : decode cL_law 263 = .ok (.aload_n 0, 1) := by decide +kernel
theorem dL_law_264 : decode cL_law 264 = .ok (.iload_n 3, 1) := by decide +kernel
theorem dL_law_265 : decode cL_law 265 = .ok (.iconst 3, 1) := by decide +kernel
theorem dL_law_266 : decode cL_law 266 = .ok (.iadd, 1) := by decide +kernel
theorem dL_law_267 : decode cL_law 267 = .ok (.iaload, 1) := by decide +kernel
theorem dL_law_268 : decode cL_law 268 = .ok (.invokevirtual 23, 3) := by decide +kernel
theorem dL_law_271 : decode cL_law 271 = .ok (.aload_n 2, 1) := by decide +kernel
theorem dL_law_272 : decode cL_law 272 = .ok (.aload_n 0, 1) := by decide +kernel
theorem dL_law_273 : decode cL_law 273 = .ok (.iload_n 3, 1) := by decide +kernel
theorem dL_law_274 : decode cL_law 274 = .ok (.iconst 1, 1) := by decide +kernel
theorem dL_law_275 : decode cL_law 275 = .ok (.iadd, 1) := by decide +kernel
theorem dL_law_276 : decode cL_law 276 = .ok (.iaload, 1) := by decide +kernel
theorem dL_law_277 : decode cL_law 277 = .ok (.aload_n 0, 1) := by decide +kernel
theorem dL_law_278 : decode cL_law 278 = .ok (.iload_n 3, 1) := by decide +kernel
theorem dL_law_279 : decode cL_law 279 = .ok (.iconst 2, 1) := by decide +kernel
theorem dL_law_280 : decode cL_law 280 = .ok (.iadd, 1) := by decide +kernel
theorem dL_law_281 : decode cL_law 281 = .ok (.iaload, 1) := by decide +kernel
theorem dL_law_282 : decode cL_law 282 = .ok (.aload_n 0, 1) := by decide +kernel
theorem dL_law_283 : decode cL_law 283 = .ok (.iload_n 3, 1) := by decide +kernel
theorem dL_law_284 : decode cL_law 284 = .ok (.iconst 3, 1) := by decide +kernel
theorem dL_law_285 : decode cL_law 285 = .ok (.iadd, 1) := by decide +kernel
theorem dL_law_286 : decode cL_law 286 = .ok (.iaload, 1) := by decide +kernel
theorem dL_law_287 : decode cL_law 287 = .ok (.invokevirtual 27, 3) := by decide +kernel
theorem dL_law_290 : decode cL_law 290 = .ok (.if_icmp .eq 956, 3) := by decide +kernel
theorem dL_law_293 : decode cL_law 293 = .ok (.iconst 0, 1) := by decide +kernel
theorem dL_law_294 : decode cL_law 294 = .ok (.ireturn, 1) := by decide +kernel
theorem dL_law_295 : decode cL_law 295 = .ok (.aload_n 1, 1) := by decide +kernel
theorem dL_law_296 : decode cL_law 296 = .ok (.aload_n 0, 1) := by decide +kernel
theorem dL_law_297 : decode cL_law 297 = .ok (.iload_n 3, 1) := by decide +kernel
theorem dL_law_298 : decode cL_law 298 = .ok (.iconst 1, 1) := by decide +kernel
theorem dL_law_299 : decode cL_law 299 = .ok (.iadd, 1) := by decide +kernel
theorem dL_law_300 : decode cL_law 300 = .ok (.iaload, 1) := by decide +kernel
theorem dL_law_301 : decode cL_law 301 = .ok (.aload_n 0, 1) := by decide +kernel
theorem dL_law_302 : decode cL_law 302 = .ok (.iload_n 3, 1) := by decide +kernel
theorem dL_law_303 : decode cL_law 303 = .ok (.iconst 2, 1) := by decide +kernel
theorem dL_law_304 : decode cL_law 304 = .ok (.iadd, 1) := by decide +kernel
theorem dL_law_305 : decode cL_law 305 = .ok (.iaload, 1) := by decide +kernel
theorem dL_law_306 : decode cL_law 306 = .ok (.invokevirtual 28, 3) := by decide +kernel
theorem dL_law_309 : decode cL_law 309 = .ok (.aload_n 2, 1) := by decide +kernel
theorem dL_law_310 : decode cL_law 310 = .ok (.aload_n 0, 1) := by decide +kernel
theorem dL_law_311 : decode cL_law 311 = .ok (.iload_n 3, 1) := by decide +kernel
theorem dL_law_312 : decode cL_law 312 = .ok (.iconst 1, 1) := by decide +kernel
theorem dL_law_313 : decode cL_law 313 = .ok (.iadd, 1) := by decide +kernel
theorem dL_law_314 : decode cL_law 314 = .ok (.iaload, 1) := by decide +kernel
theorem dL_law_315 : decode cL_law 315 = .ok (.aload_n 0, 1) := by decide +kernel
theorem dL_law_316 : decode cL_law 316 = .ok (.iload_n 3, 1) := by decide +kernel
theorem dL_law_317 : decode cL_law 317 = .ok (.iconst 2, 1) := by decide +kernel
theorem dL_law_318 : decode cL_law 318 = .ok (.iadd, 1) := by decide +kernel
theorem dL_law_319 : decode cL_law 319 = .ok (.iaload, 1) := by decide +kernel
theorem dL_law_320 : decode cL_law 320 = .ok (.invokevirtual 32, 3) := by decide +kernel
theorem dL_law_323 : decode cL_law 323 = .ok (.if_icmp .eq 923, 3) := by decide +kernel
theorem dL_law_326 : decode cL_law 326 = .ok (.iconst 0, 1) := by decide +kernel
theorem dL_law_327 : decode cL_law 327 = .ok (.ireturn, 1) := by decide +kernel
theorem dL_law_328 : decode cL_law 328 = .ok (.aload_n 1, 1) := by decide +kernel
theorem dL_law_329 : decode cL_law 329 = .ok (.aload_n 0, 1) := by decide +kernel
theorem dL_law_330 : decode cL_law 330 = .ok (.iload_n 3, 1) := by decide +kernel
theorem dL_law_331 : decode cL_law 331 = .ok (.iconst 1, 1) := by decide +kernel
theorem dL_law_332 : decode cL_law 332 = .ok (.iadd, 1) := by decide +kernel
theorem dL_law_333 : decode cL_law 333 = .ok (.iaload, 1) := by decide +kernel
theorem dL_law_334 : decode cL_law 334 = .ok (.invokevirtual 33, 3) := by decide +kernel
theorem dL_law_337 : decode cL_law 337 = .ok (.aload_n 2, 1) := by decide +kernel
theorem dL_law_338 : decode cL_law 338 = .ok (.aload_n 0, 1) := by decide +kernel
theorem dL_law_339 : decode cL_law 339 = .ok (.iload_n 3, 1) := by decide +kernel
theorem dL_law_340 : decode cL_law 340 = .ok (.iconst 1, 1) := by decide +kernel
theorem dL_law_341 : decode cL_law 341 = .ok (.iadd, 1) := by decide +kernel
theorem dL_law_342 : decode cL_law 342 = .ok (.iaload, 1) := by decide +kernel
theorem dL_law_343 : decode cL_law 343 = .ok (.invokevirtual 37, 3) := by decide +kernel
theorem dL_law_346 : decode cL_law 346 = .ok (.if_icmp .eq 900, 3) := by decide +kernel
theorem dL_law_349 : decode cL_law 349 = .ok (.iconst 0, 1) := by decide +kernel
theorem dL_law_350 : decode cL_law 350 = .ok (.ireturn, 1) := by decide +kernel
theorem dL_law_351 : decode cL_law 351 = .ok (.aload_n 1, 1) := by decide +kernel
theorem dL_law_352 : decode cL_law 352 = .ok (.aload_n 0, 1) := by decide +kernel
theorem dL_law_353 : decode cL_law 353 = .ok (.iload_n 3, 1) := by decide +kernel
theorem dL_law_354 : decode cL_law 354 = .ok (.iconst 1, 1) := by decide +kernel
theorem dL_law_355 : decode cL_law 355 = .ok (.iadd, 1) := by decide +kernel
theorem dL_law_356 : decode cL_law 356 = .ok (.iaload, 1) := by decide +kernel
theorem dL_law_357 : decode cL_law 357 = .ok (.aload_n 0, 1) := by decide +kernel
theorem dL_law_358 : decode cL_law 358 = .ok (.iload_n 3, 1) := by decide +kernel
theorem dL_law_359 : decode cL_law 359 = .ok (.iconst 2, 1) := by decide +kernel
theorem dL_law_360 : decode cL_law 360 = .ok (.iadd, 1) := by decide +kernel
theorem dL_law_361 : decode cL_law 361 = .ok (.iaload, 1) := by decide +kernel
theorem dL_law_362 : decode cL_law 362 = .ok (.invokevirtual 38, 3) := by decide +kernel
theorem dL_law_365 : decode cL_law 365 = .ok (.aload_n 2, 1) := by decide +kernel
theorem dL_law_366 : decode cL_law 366 = .ok (.aload_n 0, 1) := by decide +kernel
theorem dL_law_367 : decode cL_law 367 = .ok (.iload_n 3, 1) := by decide +kernel
theorem dL_law_368 : decode cL_law 368 = .ok (.iconst 1, 1) := by decide +kernel
theorem dL_law_369 : decode cL_law 369 = .ok (.iadd, 1) := by decide +kernel
theorem dL_law_370 : decode cL_law 370 = .ok (.iaload, 1) := by decide +kernel
theorem dL_law_371 : decode cL_law 371 = .ok (.aload_n 0, 1) := by decide +kernel
theorem dL_law_372 : decode cL_law 372 = .ok (.iload_n 3, 1) := by decide +kernel
theorem dL_law_373 : decode cL_law 373 = .ok (.iconst 2, 1) := by decide +kernel
theorem dL_law_374 : decode cL_law 374 = .ok (.iadd, 1) := by decide +kernel
theorem dL_law_375 : decode cL_law 375 = .ok (.iaload, 1) := by decide +kernel
theorem dL_law_376 : decode cL_law 376 = .ok (.invokevirtual 41, 3) := by decide +kernel
theorem dL_law_379 : decode cL_law 379 = .ok (.if_icmp .eq 867, 3) := by decide +kernel
theorem dL_law_382 : decode cL_law 382 = .ok (.iconst 0, 1) := by decide +kernel
theorem dL_law_383 : decode cL_law 383 = .ok (.ireturn, 1) := by decide +kernel
theorem dL_law_384 : decode cL_law 384 = .ok (.aload_n 1, 1) := by decide +kernel
theorem dL_law_385 : decode cL_law 385 = .ok (.aload_n 0, 1) := by decide +kernel
theorem dL_law_386 : decode cL_law 386 = .ok (.iload_n 3, 1) := by decide +kernel
theorem dL_law_387 : decode cL_law 387 = .ok (.iconst 1, 1) := by decide +kernel
theorem dL_law_388 : decode cL_law 388 = .ok (.iadd, 1) := by decide +kernel
theorem dL_law_389 : decode cL_law 389 = .ok (.iaload, 1) := by decide +kernel
theorem dL_law_390 : decode cL_law 390 = .ok (.invokevirtual 42, 3) := by decide +kernel
theorem dL_law_393 : decode cL_law 393 = .ok (.aload_n 2, 1) := by decide +kernel
theorem dL_law_394 : decode cL_law 394 = .ok (.aload_n 0, 1) := by decide +kernel
theorem dL_law_395 : decode cL_law 395 = .ok (.iload_n 3, 1) := by decide +kernel
theorem dL_law_396 : decode cL_law 396 = .ok (.iconst 1, 1) := by decide +kernel
theorem dL_law_397 : decode cL_law 397 = .ok (.iadd, 1) := by decide +kernel
theorem dL_law_398 : decode cL_law 398 = .ok (.iaload, 1) := by decide +kernel
theorem dL_law_399 : decode cL_law 399 = .ok (.invokevirtual 45, 3) := by decide +kernel
theorem dL_law_402 : decode cL_law 402 = .ok (.if_icmp .eq 844, 3) := by decide +kernel
theorem dL_law_405 : decode cL_law 405 = .ok (.iconst 0, 1) := by decide +kernel
theorem dL_law_406 : decode cL_law 406 = .ok (.ireturn, 1) := by decide +kernel
theorem dL_law_407 : decode cL_law 407 = .ok (.aload_n 1, 1) := by decide +kernel
theorem dL_law_408 : decode cL_law 408 = .ok (.aload_n 0, 1) := by decide +kernel
theorem dL_law_409 : decode cL_law 409 = .ok (.iload_n 3, 1) := by decide +kernel
theorem dL_law_410 : decode cL_law 410 = .ok (.iconst 1, 1) := by decide +kernel
theorem dL_law_411 : decode cL_law 411 = .ok (.iadd, 1) := by decide +kernel
theorem dL_law_412 : decode cL_law 412 = .ok (.iaload, 1) := by decide +kernel
theorem dL_law_413 : decode cL_law 413 = .ok (.aload_n 0, 1) := by decide +kernel
theorem dL_law_414 : decode cL_law 414 = .ok (.iload_n 3, 1) := by decide +kernel
theorem dL_law_415 : decode cL_law 415 = .ok (.iconst 2, 1) := by decide +kernel
theorem dL_law_416 : decode cL_law 416 = .ok (.iadd, 1) := by decide +kernel
theorem dL_law_417 : decode cL_law 417 = .ok (.iaload, 1) := by decide +kernel
theorem dL_law_418 : decode cL_law 418 = .ok (.invokevirtual 46, 3) := by decide +kernel
theorem dL_law_421 : decode cL_law 421 = .ok (.aload_n 2, 1) := by decide +kernel
theorem dL_law_422 : decode cL_law 422 = .ok (.aload_n 0, 1) := by decide +kernel
theorem dL_law_423 : decode cL_law 423 = .ok (.iload_n 3, 1) := by decide +kernel
theorem dL_law_424 : decode cL_law 424 = .ok (.iconst 1, 1) := by decide +kernel
theorem dL_law_425 : decode cL_law 425 = .ok (.iadd, 1) := by decide +kernel
theorem dL_law_426 : decode cL_law 426 = .ok (.iaload, 1) := by decide +kernel
theorem dL_law_427 : decode cL_law 427 = .ok (.aload_n 0, 1) := by decide +kernel
theorem dL_law_428 : decode cL_law 428 = .ok (.iload_n 3, 1) := by decide +kernel
theorem dL_law_429 : decode cL_law 429 = .ok (.iconst 2, 1) := by decide +kernel
theorem dL_law_430 : decode cL_law 430 = .ok (.iadd, 1) := by decide +kernel
theorem dL_law_431 : decode cL_law 431 = .ok (.iaload, 1) := by decide +kernel
theorem dL_law_432 : decode cL_law 432 = .ok (.invokevirtual 49, 3) := by decide +kernel
theorem dL_law_435 : decode cL_law 435 = .ok (.if_icmp .eq 811, 3) := by decide +kernel
theorem dL_law_438 : decode cL_law 438 = .ok (.iconst 0, 1) := by decide +kernel
theorem dL_law_439 : decode cL_law 439 = .ok (.ireturn, 1) := by decide +kernel
theorem dL_law_440 : decode cL_law 440 = .ok (.aload_n 1, 1) := by decide +kernel
theorem dL_law_441 : decode cL_law 441 = .ok (.aload_n 0, 1) := by decide +kernel
theorem dL_law_442 : decode cL_law 442 = .ok (.iload_n 3, 1) := by decide +kernel
theorem dL_law_443 : decode cL_law 443 = .ok (.iconst 1, 1) := by decide +kernel
theorem dL_law_444 : decode cL_law 444 = .ok (.iadd, 1) := by decide +kernel
theorem dL_law_445 : decode cL_law 445 = .ok (.iaload, 1) := by decide +kernel
theorem dL_law_446 : decode cL_law 446 = .ok (.invokevirtual 50, 3) := by decide +kernel
theorem dL_law_449 : decode cL_law 449 = .ok (.aload_n 2, 1) := by decide +kernel
theorem dL_law_450 : decode cL_law 450 = .ok (.aload_n 0, 1) := by decide +kernel
theorem dL_law_451 : decode cL_law 451 = .ok (.iload_n 3, 1) := by decide +kernel
theorem dL_law_452 : decode cL_law 452 = .ok (.iconst 1, 1) := by decide +kernel
theorem dL_law_453 : decode cL_law 453 = .ok (.iadd, 1) := by decide +kernel
theorem dL_law_454 : decode cL_law 454 = .ok (.iaload, 1) := by decide +kernel
theorem dL_law_455 : decode cL_law 455 = .ok (.invokevirtual 53, 3) := by decide +kernel
theorem dL_law_458 : decode cL_law 458 = .ok (.if_icmp .eq 788, 3) := by decide +kernel
theorem dL_law_461 : decode cL_law 461 = .ok (.iconst 0, 1) := by decide +kernel
theorem dL_law_462 : decode cL_law 462 = .ok (.ireturn, 1) := by decide +kernel
theorem dL_law_463 : decode cL_law 463 = .ok (.aload_n 1, 1) := by decide +kernel
theorem dL_law_464 : decode cL_law 464 = .ok (.invokevirtual 54, 3) := by decide +kernel
theorem dL_law_467 : decode cL_law 467 = .ok (.aload_n 2, 1) := by decide +kernel
theorem dL_law_468 : decode cL_law 468 = .ok (.invokevirtual 57, 3) := by decide +kernel
theorem dL_law_471 : decode cL_law 471 = .ok (.if_icmp .eq 775, 3) := by decide +kernel
theorem dL_law_474 : decode cL_law 474 = .ok (.iconst 0, 1) := by decide +kernel
theorem dL_law_475 : decode cL_law 475 = .ok (.ireturn, 1) := by decide +kernel
theorem dL_law_476 : decode cL_law 476 = .ok (.aload_n 1, 1) := by decide +kernel
theorem dL_law_477 : decode cL_law 477 = .ok (.aload_n 0, 1) := by decide +kernel
theorem dL_law_478 : decode cL_law 478 = .ok (.iload_n 3, 1) := by decide +kernel
theorem dL_law_479 : decode cL_law 479 = .ok (.iconst 1, 1) := by decide +kernel
theorem dL_law_480 : decode cL_law 480 = .ok (.iadd, 1) := by decide +kernel
theorem dL_law_481 : decode cL_law 481 = .ok (.iaload, 1) := by decide +kernel
theorem dL_law_482 : decode cL_law 482 = .ok (.aload_n 0, 1) := by decide +kernel
theorem dL_law_483 : decode cL_law 483 = .ok (.iload_n 3, 1) := by decide +kernel
theorem dL_law_484 : decode cL_law 484 = .ok (.iconst 2, 1) := by decide +kernel
theorem dL_law_485 : decode cL_law 485 = .ok (.iadd, 1) := by decide +kernel
theorem dL_law_486 : decode cL_law 486 = .ok (.iaload, 1) := by decide +kernel
theorem dL_law_487 : decode cL_law 487 = .ok (.invokevirtual 58, 3) := by decide +kernel
theorem dL_law_490 : decode cL_law 490 = .ok (.aload_n 2, 1) := by decide +kernel
theorem dL_law_491 : decode cL_law 491 = .ok (.aload_n 0, 1) := by decide +kernel
theorem dL_law_492 : decode cL_law 492 = .ok (.iload_n 3, 1) := by decide +kernel
theorem dL_law_493 : decode cL_law 493 = .ok (.iconst 1, 1) := by decide +kernel
theorem dL_law_494 : decode cL_law 494 = .ok (.iadd, 1) := by decide +kernel
theorem dL_law_495 : decode cL_law 495 = .ok (.iaload, 1) := by decide +kernel
theorem dL_law_496 : decode cL_law 496 = .ok (.aload_n 0, 1) := by decide +kernel
theorem dL_law_497 : decode cL_law 497 = .ok (.iload_n 3, 1) := by decide +kernel
theorem dL_law_498 : decode cL_law 498 = .ok (.iconst 2, 1) := by decide +kernel
theorem dL_law_499 : decode cL_law 499 = .ok (.iadd, 1) := by decide +kernel
theorem dL_law_500 : decode cL_law 500 = .ok (.iaload, 1) := by decide +kernel
theorem dL_law_501 : decode cL_law 501 = .ok (.invokevirtual 61, 3) := by decide +kernel
theorem dL_law_504 : decode cL_law 504 = .ok (.if_icmp .eq 742, 3) := by decide +kernel
theorem dL_law_507 : decode cL_law 507 = .ok (.iconst 0, 1) := by decide +kernel
theorem dL_law_508 : decode cL_law 508 = .ok (.ireturn, 1) := by decide +kernel
theorem dL_law_509 : decode cL_law 509 = .ok (.aload_n 1, 1) := by decide +kernel
theorem dL_law_510 : decode cL_law 510 = .ok (.aload_n 0, 1) := by decide +kernel
theorem dL_law_511 : decode cL_law 511 = .ok (.iload_n 3, 1) := by decide +kernel
theorem dL_law_512 : decode cL_law 512 = .ok (.iconst 1, 1) := by decide +kernel
theorem dL_law_513 : decode cL_law 513 = .ok (.iadd, 1) := by decide +kernel
theorem dL_law_514 : decode cL_law 514 = .ok (.iaload, 1) := by decide +kernel
theorem dL_law_515 : decode cL_law 515 = .ok (.aload_n 0, 1) := by decide +kernel
theorem dL_law_516 : decode cL_law 516 = .ok (.iload_n 3, 1) := by decide +kernel
theorem dL_law_517 : decode cL_law 517 = .ok (.iconst 2, 1) := by decide +kernel
theorem dL_law_518 : decode cL_law 518 = .ok (.iadd, 1) := by decide +kernel
theorem dL_law_519 : decode cL_law 519 = .ok (.iaload, 1) := by decide +kernel
theorem dL_law_520 : decode cL_law 520 = .ok (.aload_n 0, 1) := by decide +kernel
theorem dL_law_521 : decode cL_law 521 = .ok (.iload_n 3, 1) := by decide +kernel
theorem dL_law_522 : decode cL_law 522 = .ok (.iconst 3, 1) := by decide +kernel
theorem dL_law_523 : decode cL_law 523 = .ok (.iadd, 1) := by decide +kernel
theorem dL_law_524 : decode cL_law 524 = .ok (.iaload, 1) := by decide +kernel
theorem dL_law_525 : decode cL_law 525 = .ok (.aload_n 0, 1) := by decide +kernel
theorem dL_law_526 : decode cL_law 526 = .ok (.iload_n 3, 1) := by decide +kernel
theorem dL_law_527 : decode cL_law 527 = .ok (.iconst 4, 1) := by decide +kernel
theorem dL_law_528 : decode cL_law 528 = .ok (.iadd, 1) := by decide +kernel
theorem dL_law_529 : decode cL_law 529 = .ok (.iaload, 1) := by decide +kernel
theorem dL_law_530 : decode cL_law 530 = .ok (.invokevirtual 62, 3) := by decide +kernel
theorem dL_law_533 : decode cL_law 533 = .ok (.aload_n 2, 1) := by decide +kernel
theorem dL_law_534 : decode cL_law 534 = .ok (.aload_n 0, 1) := by decide +kernel
theorem dL_law_535 : decode cL_law 535 = .ok (.iload_n 3, 1) := by decide +kernel
theorem dL_law_536 : decode cL_law 536 = .ok (.iconst 1, 1) := by decide +kernel
theorem dL_law_537 : decode cL_law 537 = .ok (.iadd, 1) := by decide +kernel
theorem dL_law_538 : decode cL_law 538 = .ok (.iaload, 1) := by decide +kernel
theorem dL_law_539 : decode cL_law 539 = .ok (.aload_n 0, 1) := by decide +kernel
theorem dL_law_540 : decode cL_law 540 = .ok (.iload_n 3, 1) := by decide +kernel
theorem dL_law_541 : decode cL_law 541 = .ok (.iconst 2, 1) := by decide +kernel
theorem dL_law_542 : decode cL_law 542 = .ok (.iadd, 1) := by decide +kernel
theorem dL_law_543 : decode cL_law 543 = .ok (.iaload, 1) := by decide +kernel
theorem dL_law_544 : decode cL_law 544 = .ok (.aload_n 0, 1) := by decide +kernel
theorem dL_law_545 : decode cL_law 545 = .ok (.iload_n 3, 1) := by decide +kernel
theorem dL_law_546 : decode cL_law 546 = .ok (.iconst 3, 1) := by decide +kernel
theorem dL_law_547 : decode cL_law 547 = .ok (.iadd, 1) := by decide +kernel
theorem dL_law_548 : decode cL_law 548 = .ok (.iaload, 1) := by decide +kernel
theorem dL_law_549 : decode cL_law 549 = .ok (.aload_n 0, 1) := by decide +kernel
theorem dL_law_550 : decode cL_law 550 = .ok (.iload_n 3, 1) := by decide +kernel
theorem dL_law_551 : decode cL_law 551 = .ok (.iconst 4, 1) := by decide +kernel
theorem dL_law_552 : decode cL_law 552 = .ok (.iadd, 1) := by decide +kernel
theorem dL_law_553 : decode cL_law 553 = .ok (.iaload, 1) := by decide +kernel
theorem dL_law_554 : decode cL_law 554 = .ok (.invokevirtual 66, 3) := by decide +kernel
theorem dL_law_557 : decode cL_law 557 = .ok (.if_icmp .eq 689, 3) := by decide +kernel
theorem dL_law_560 : decode cL_law 560 = .ok (.iconst 0, 1) := by decide +kernel
theorem dL_law_561 : decode cL_law 561 = .ok (.ireturn, 1) := by decide +kernel
theorem dL_law_562 : decode cL_law 562 = .ok (.aload_n 1, 1) := by decide +kernel
theorem dL_law_563 : decode cL_law 563 = .ok (.aload_n 0, 1) := by decide +kernel
theorem dL_law_564 : decode cL_law 564 = .ok (.iload_n 3, 1) := by decide +kernel
theorem dL_law_565 : decode cL_law 565 = .ok (.iconst 1, 1) := by decide +kernel
theorem dL_law_566 : decode cL_law 566 = .ok (.iadd, 1) := by decide +kernel
theorem dL_law_567 : decode cL_law 567 = .ok (.iaload, 1) := by decide +kernel
theorem dL_law_568 : decode cL_law 568 = .ok (.aload_n 0, 1) := by decide +kernel
theorem dL_law_569 : decode cL_law 569 = .ok (.iload_n 3, 1) := by decide +kernel
theorem dL_law_570 : decode cL_law 570 = .ok (.iconst 2, 1) := by decide +kernel
theorem dL_law_571 : decode cL_law 571 = .ok (.iadd, 1) := by decide +kernel
theorem dL_law_572 : decode cL_law 572 = .ok (.iaload, 1) := by decide +kernel
theorem dL_law_573 : decode cL_law 573 = .ok (.ifCond .eq 7, 3) := by decide +kernel
theorem dL_law_576 : decode cL_law 576 = .ok (.iconst 1, 1) := by decide +kernel
theorem dL_law_577 : decode cL_law 577 = .ok (.goto 4, 3) := by decide +kernel
theorem dL_law_580 : decode cL_law 580 = .ok (.iconst 0, 1) := by decide +kernel
theorem dL_law_581 : decode cL_law 581 = .ok (.invokevirtual 67, 3) := by decide +kernel
theorem dL_law_584 : decode cL_law 584 = .ok (.aload_n 2, 1) := by decide +kernel
theorem dL_law_585 : decode cL_law 585 = .ok (.aload_n 0, 1) := by decide +kernel
theorem dL_law_586 : decode cL_law 586 = .ok (.iload_n 3, 1) := by decide +kernel
theorem dL_law_587 : decode cL_law 587 = .ok (.iconst 1, 1) := by decide +kernel
theorem dL_law_588 : decode cL_law 588 = .ok (.iadd, 1) := by decide +kernel
theorem dL_law_589 : decode cL_law 589 = .ok (.iaload, 1) := by decide +kernel
theorem dL_law_590 : decode cL_law 590 = .ok (.aload_n 0, 1) := by decide +kernel
theorem dL_law_591 : decode cL_law 591 = .ok (.iload_n 3, 1) := by decide +kernel
theorem dL_law_592 : decode cL_law 592 = .ok (.iconst 2, 1) := by decide +kernel
theorem dL_law_593 : decode cL_law 593 = .ok (.iadd, 1) := by decide +kernel
theorem dL_law_594 : decode cL_law 594 = .ok (.iaload, 1) := by decide +kernel
theorem dL_law_595 : decode cL_law 595 = .ok (.ifCond .eq 7, 3) := by decide +kernel
theorem dL_law_598 : decode cL_law 598 = .ok (.iconst 1, 1) := by decide +kernel
theorem dL_law_599 : decode cL_law 599 = .ok (.goto 4, 3) := by decide +kernel
theorem dL_law_602 : decode cL_law 602 = .ok (.iconst 0, 1) := by decide +kernel
theorem dL_law_603 : decode cL_law 603 = .ok (.invokevirtual 71, 3) := by decide +kernel
theorem dL_law_606 : decode cL_law 606 = .ok (.if_icmp .eq 640, 3) := by decide +kernel
theorem dL_law_609 : decode cL_law 609 = .ok (.iconst 0, 1) := by decide +kernel
theorem dL_law_610 : decode cL_law 610 = .ok (.ireturn, 1) := by decide +kernel
theorem dL_law_611 : decode cL_law 611 = .ok (.aload_n 1, 1) := by decide +kernel
theorem dL_law_612 : decode cL_law 612 = .ok (.invokevirtual 72, 3) := by decide +kernel
theorem dL_law_615 : decode cL_law 615 = .ok (.aload_n 2, 1) := by decide +kernel
theorem dL_law_616 : decode cL_law 616 = .ok (.invokevirtual 75, 3) := by decide +kernel
theorem dL_law_619 : decode cL_law 619 = .ok (.if_icmp .eq 627, 3) := by decide +kernel
theorem dL_law_622 : decode cL_law 622 = .ok (.iconst 0, 1) := by decide +kernel
theorem dL_law_623 : decode cL_law 623 = .ok (.ireturn, 1) := by decide +kernel
theorem dL_law_624 : decode cL_law 624 = .ok (.aload_n 1, 1) := by decide +kernel
theorem dL_law_625 : decode cL_law 625 = .ok (.aload_n 0, 1) := by decide +kernel
theorem dL_law_626 : decode cL_law 626 = .ok (.iload_n 3, 1) := by decide +kernel
theorem dL_law_627 : decode cL_law 627 = .ok (.iconst 1, 1) := by decide +kernel
theorem dL_law_628 : decode cL_law 628 = .ok (.iadd, 1) := by decide +kernel
theorem dL_law_629 : decode cL_law 629 = .ok (.iaload, 1) := by decide +kernel
theorem dL_law_630 : decode cL_law 630 = .ok (.invokevirtual 76, 3) := by decide +kernel
theorem dL_law_633 : decode cL_law 633 = .ok (.aload_n 2, 1) := by decide +kernel
theorem dL_law_634 : decode cL_law 634 = .ok (.aload_n 0, 1) := by decide +kernel
theorem dL_law_635 : decode cL_law 635 = .ok (.iload_n 3, 1) := by decide +kernel
theorem dL_law_636 : decode cL_law 636 = .ok (.iconst 1, 1) := by decide +kernel
theorem dL_law_637 : decode cL_law 637 = .ok (.iadd, 1) := by decide +kernel
theorem dL_law_638 : decode cL_law 638 = .ok (.iaload, 1) := by decide +kernel
theorem dL_law_639 : decode cL_law 639 = .ok (.invokevirtual 79, 3) := by decide +kernel
theorem dL_law_642 : decode cL_law 642 = .ok (.if_icmp .eq 604, 3) := by decide +kernel
theorem dL_law_645 : decode cL_law 645 = .ok (.iconst 0, 1) := by decide +kernel
theorem dL_law_646 : decode cL_law 646 = .ok (.ireturn, 1) := by decide +kernel
theorem dL_law_647 : decode cL_law 647 = .ok (.aload_n 1, 1) := by decide +kernel
theorem dL_law_648 : decode cL_law 648 = .ok (.aload_n 0, 1) := by decide +kernel
theorem dL_law_649 : decode cL_law 649 = .ok (.iload_n 3, 1) := by decide +kernel
theorem dL_law_650 : decode cL_law 650 = .ok (.iconst 1, 1) := by decide +kernel
theorem dL_law_651 : decode cL_law 651 = .ok (.iadd, 1) := by decide +kernel
theorem dL_law_652 : decode cL_law 652 = .ok (.iaload, 1) := by decide +kernel
theorem dL_law_653 : decode cL_law 653 = .ok (.aload_n 0, 1) := by decide +kernel
theorem dL_law_654 : decode cL_law 654 = .ok (.iload_n 3, 1) := by decide +kernel
theorem dL_law_655 : decode cL_law 655 = .ok (.iconst 2, 1) := by decide +kernel
theorem dL_law_656 : decode cL_law 656 = .ok (.iadd, 1) := by decide +kernel
theorem dL_law_657 : decode cL_law 657 = .ok (.iaload, 1) := by decide +kernel
theorem dL_law_658 : decode cL_law 658 = .ok (.invokevirtual 80, 3) := by decide +kernel
theorem dL_law_661 : decode cL_law 661 = .ok (.aload_n 2, 1) := by decide +kernel
theorem dL_law_662 : decode cL_law 662 = .ok (.aload_n 0, 1) := by decide +kernel
theorem dL_law_663 : decode cL_law 663 = .ok (.iload_n 3, 1) := by decide +kernel
theorem dL_law_664 : decode cL_law 664 = .ok (.iconst 1, 1) := by decide +kernel
theorem dL_law_665 : decode cL_law 665 = .ok (.iadd, 1) := by decide +kernel
theorem dL_law_666 : decode cL_law 666 = .ok (.iaload, 1) := by decide +kernel
theorem dL_law_667 : decode cL_law 667 = .ok (.aload_n 0, 1) := by decide +kernel
theorem dL_law_668 : decode cL_law 668 = .ok (.iload_n 3, 1) := by decide +kernel
theorem dL_law_669 : decode cL_law 669 = .ok (.iconst 2, 1) := by decide +kernel
theorem dL_law_670 : decode cL_law 670 = .ok (.iadd, 1) := by decide +kernel
theorem dL_law_671 : decode cL_law 671 = .ok (.iaload, 1) := by decide +kernel
theorem dL_law_672 : decode cL_law 672 = .ok (.invokevirtual 83, 3) := by decide +kernel
theorem dL_law_675 : decode cL_law 675 = .ok (.if_icmp .eq 571, 3) := by decide +kernel
theorem dL_law_678 : decode cL_law 678 = .ok (.iconst 0, 1) := by decide +kernel
theorem dL_law_679 : decode cL_law 679 = .ok (.ireturn, 1) := by decide +kernel
theorem dL_law_680 : decode cL_law 680 = .ok (.aload_n 1, 1) := by decide +kernel
theorem dL_law_681 : decode cL_law 681 = .ok (.aload_n 0, 1) := by decide +kernel
theorem dL_law_682 : decode cL_law 682 = .ok (.iload_n 3, 1) := by decide +kernel
theorem dL_law_683 : decode cL_law 683 = .ok (.iconst 1, 1) := by decide +kernel
theorem dL_law_684 : decode cL_law 684 = .ok (.iadd, 1) := by decide +kernel
theorem dL_law_685 : decode cL_law 685 = .ok (.iaload, 1) := by decide +kernel
theorem dL_law_686 : decode cL_law 686 = .ok (.aload_n 0, 1) := by decide +kernel
theorem dL_law_687 : decode cL_law 687 = .ok (.iload_n 3, 1) := by decide +kernel
theorem dL_law_688 : decode cL_law 688 = .ok (.iconst 2, 1) := by decide +kernel
theorem dL_law_689 : decode cL_law 689 = .ok (.iadd, 1) := by decide +kernel
theorem dL_law_690 : decode cL_law 690 = .ok (.iaload, 1) := by decide +kernel
theorem dL_law_691 : decode cL_law 691 = .ok (.invokevirtual 84, 3) := by decide +kernel
theorem dL_law_694 : decode cL_law 694 = .ok (.aload_n 2, 1) := by decide +kernel
theorem dL_law_695 : decode cL_law 695 = .ok (.aload_n 0, 1) := by decide +kernel
theorem dL_law_696 : decode cL_law 696 = .ok (.iload_n 3, 1) := by decide +kernel
theorem dL_law_697 : decode cL_law 697 = .ok (.iconst 1, 1) := by decide +kernel
theorem dL_law_698 : decode cL_law 698 = .ok (.iadd, 1) := by decide +kernel
theorem dL_law_699 : decode cL_law 699 = .ok (.iaload, 1) := by decide +kernel
theorem dL_law_700 : decode cL_law 700 = .ok (.aload_n 0, 1) := by decide +kernel
theorem dL_law_701 : decode cL_law 701 = .ok (.iload_n 3, 1) := by decide +kernel
theorem dL_law_702 : decode cL_law 702 = .ok (.iconst 2, 1) := by decide +kernel
theorem dL_law_703 : decode cL_law 703 = .ok (.iadd, 1) := by decide +kernel
theorem dL_law_704 : decode cL_law 704 = .ok (.iaload, 1) := by decide +kernel
theorem dL_law_705 : decode cL_law 705 = .ok (.invokevirtual 87, 3) := by decide +kernel
theorem dL_law_708 : decode cL_law 708 = .ok (.if_icmp .eq 538, 3) := by decide +kernel
theorem dL_law_711 : decode cL_law 711 = .ok (.iconst 0, 1) := by decide +kernel
theorem dL_law_712 : decode cL_law 712 = .ok (.ireturn, 1) := by decide +kernel
theorem dL_law_713 : decode cL_law 713 = .ok (.aload_n 1, 1) := by decide +kernel
theorem dL_law_714 : decode cL_law 714 = .ok (.aload_n 0, 1) := by decide +kernel
theorem dL_law_715 : decode cL_law 715 = .ok (.iload_n 3, 1) := by decide +kernel
theorem dL_law_716 : decode cL_law 716 = .ok (.iconst 1, 1) := by decide +kernel
theorem dL_law_717 : decode cL_law 717 = .ok (.iadd, 1) := by decide +kernel
theorem dL_law_718 : decode cL_law 718 = .ok (.iaload, 1) := by decide +kernel
theorem dL_law_719 : decode cL_law 719 = .ok (.aload_n 0, 1) := by decide +kernel
theorem dL_law_720 : decode cL_law 720 = .ok (.iload_n 3, 1) := by decide +kernel
theorem dL_law_721 : decode cL_law 721 = .ok (.iconst 2, 1) := by decide +kernel
theorem dL_law_722 : decode cL_law 722 = .ok (.iadd, 1) := by decide +kernel
theorem dL_law_723 : decode cL_law 723 = .ok (.iaload, 1) := by decide +kernel
theorem dL_law_724 : decode cL_law 724 = .ok (.i2l, 1) := by decide +kernel
theorem dL_law_725 : decode cL_law 725 = .ok (.bipush 32, 2) := by decide +kernel
theorem dL_law_727 : decode cL_law 727 = .ok (.lshl, 1) := by decide +kernel
theorem dL_law_728 : decode cL_law 728 = .ok (.aload_n 0, 1) := by decide +kernel
theorem dL_law_729 : decode cL_law 729 = .ok (.iload_n 3, 1) := by decide +kernel
theorem dL_law_730 : decode cL_law 730 = .ok (.iconst 3, 1) := by decide +kernel
theorem dL_law_731 : decode cL_law 731 = .ok (.iadd, 1) := by decide +kernel
theorem dL_law_732 : decode cL_law 732 = .ok (.iaload, 1) := by decide +kernel
theorem dL_law_733 : decode cL_law 733 = .ok (.i2l, 1) := by decide +kernel
theorem dL_law_734 : decode cL_law 734 = .ok (.ldc2_w 88, 3) := by decide +kernel
theorem dL_law_737 : decode cL_law 737 = .ok (.land, 1) := by decide +kernel
theorem dL_law_738 : decode cL_law 738 = .ok (.lor, 1) := by decide +kernel
theorem dL_law_739 : decode cL_law 739 = .ok (.invokevirtual 90, 3) := by decide +kernel
theorem dL_law_742 : decode cL_law 742 = .ok (.aload_n 2, 1) := by decide +kernel
theorem dL_law_743 : decode cL_law 743 = .ok (.aload_n 0, 1) := by decide +kernel
theorem dL_law_744 : decode cL_law 744 = .ok (.iload_n 3, 1) := by decide +kernel
theorem dL_law_745 : decode cL_law 745 = .ok (.iconst 1, 1) := by decide +kernel
theorem dL_law_746 : decode cL_law 746 = .ok (.iadd, 1) := by decide +kernel
theorem dL_law_747 : decode cL_law 747 = .ok (.iaload, 1) := by decide +kernel
theorem dL_law_748 : decode cL_law 748 = .ok (.aload_n 0, 1) := by decide +kernel
theorem dL_law_749 : decode cL_law 749 = .ok (.iload_n 3, 1) := by decide +kernel
theorem dL_law_750 : decode cL_law 750 = .ok (.iconst 2, 1) := by decide +kernel
theorem dL_law_751 : decode cL_law 751 = .ok (.iadd, 1) := by decide +kernel
theorem dL_law_752 : decode cL_law 752 = .ok (.iaload, 1) := by decide +kernel
theorem dL_law_753 : decode cL_law 753 = .ok (.i2l, 1) := by decide +kernel
theorem dL_law_754 : decode cL_law 754 = .ok (.bipush 32, 2) := by decide +kernel
theorem dL_law_756 : decode cL_law 756 = .ok (.lshl, 1) := by decide +kernel
theorem dL_law_757 : decode cL_law 757 = .ok (.aload_n 0, 1) := by decide +kernel
theorem dL_law_758 : decode cL_law 758 = .ok (.iload_n 3, 1) := by decide +kernel
theorem dL_law_759 : decode cL_law 759 = .ok (.iconst 3, 1) := by decide +kernel
theorem dL_law_760 : decode cL_law 760 = .ok (.iadd, 1) := by decide +kernel
theorem dL_law_761 : decode cL_law 761 = .ok (.iaload, 1) := by decide +kernel
theorem dL_law_762 : decode cL_law 762 = .ok (.i2l, 1) := by decide +kernel
theorem dL_law_763 : decode cL_law 763 = .ok (.ldc2_w 88, 3) := by decide +kernel
theorem dL_law_766 : decode cL_law 766 = .ok (.land, 1) := by decide +kernel
theorem dL_law_767 : decode cL_law 767 = .ok (.lor, 1) := by decide +kernel
theorem dL_law_768 : decode cL_law 768 = .ok (.invokevirtual 94, 3) := by decide +kernel
theorem dL_law_771 : decode cL_law 771 = .ok (.if_icmp .eq 475, 3) := by decide +kernel
theorem dL_law_774 : decode cL_law 774 = .ok (.iconst 0, 1) := by decide +kernel
theorem dL_law_775 : decode cL_law 775 = .ok (.ireturn, 1) := by decide +kernel
theorem dL_law_776 : decode cL_law 776 = .ok (.aload_n 1, 1) := by decide +kernel
theorem dL_law_777 : decode cL_law 777 = .ok (.invokevirtual 95, 3) := by decide +kernel
theorem dL_law_780 : decode cL_law 780 = .ok (.aload_n 2, 1) := by decide +kernel
theorem dL_law_781 : decode cL_law 781 = .ok (.invokevirtual 98, 3) := by decide +kernel
theorem dL_law_784 : decode cL_law 784 = .ok (.if_icmp .eq 462, 3) := by decide +kernel
theorem dL_law_787 : decode cL_law 787 = .ok (.iconst 0, 1) := by decide +kernel
theorem dL_law_788 : decode cL_law 788 = .ok (.ireturn, 1) := by decide +kernel
theorem dL_law_789 : decode cL_law 789 = .ok (.aload_n 1, 1) := by decide +kernel
theorem dL_law_790 : decode cL_law 790 = .ok (.aload_n 0, 1) := by decide +kernel
theorem dL_law_791 : decode cL_law 791 = .ok (.iload_n 3, 1) := by decide +kernel
theorem dL_law_792 : decode cL_law 792 = .ok (.iconst 1, 1) := by decide +kernel
theorem dL_law_793 : decode cL_law 793 = .ok (.iadd, 1) := by decide +kernel
theorem dL_law_794 : decode cL_law 794 = .ok (.iaload, 1) := by decide +kernel
theorem dL_law_795 : decode cL_law 795 = .ok (.aload_n 0, 1) := by decide +kernel
theorem dL_law_796 : decode cL_law 796 = .ok (.iload_n 3, 1) := by decide +kernel
theorem dL_law_797 : decode cL_law 797 = .ok (.iconst 2, 1) := by decide +kernel
theorem dL_law_798 : decode cL_law 798 = .ok (.iadd, 1) := by decide +kernel
theorem dL_law_799 : decode cL_law 799 = .ok (.iaload, 1) := by decide +kernel
theorem dL_law_800 : decode cL_law 800 = .ok (.invokevirtual 99, 3) := by decide +kernel
theorem dL_law_803 : decode cL_law 803 = .ok (.aload_n 2, 1) := by decide +kernel
theorem dL_law_804 : decode cL_law 804 = .ok (.aload_n 0, 1) := by decide +kernel
theorem dL_law_805 : decode cL_law 805 = .ok (.iload_n 3, 1) := by decide +kernel
theorem dL_law_806 : decode cL_law 806 = .ok (.iconst 1, 1) := by decide +kernel
theorem dL_law_807 : decode cL_law 807 = .ok (.iadd, 1) := by decide +kernel
theorem dL_law_808 : decode cL_law 808 = .ok (.iaload, 1) := by decide +kernel
theorem dL_law_809 : decode cL_law 809 = .ok (.aload_n 0, 1) := by decide +kernel
theorem dL_law_810 : decode cL_law 810 = .ok (.iload_n 3, 1) := by decide +kernel
theorem dL_law_811 : decode cL_law 811 = .ok (.iconst 2, 1) := by decide +kernel
theorem dL_law_812 : decode cL_law 812 = .ok (.iadd, 1) := by decide +kernel
theorem dL_law_813 : decode cL_law 813 = .ok (.iaload, 1) := by decide +kernel
theorem dL_law_814 : decode cL_law 814 = .ok (.invokevirtual 102, 3) := by decide +kernel
theorem dL_law_817 : decode cL_law 817 = .ok (.if_icmp .eq 429, 3) := by decide +kernel
theorem dL_law_820 : decode cL_law 820 = .ok (.iconst 0, 1) := by decide +kernel
theorem dL_law_821 : decode cL_law 821 = .ok (.ireturn, 1) := by decide +kernel
theorem dL_law_822 : decode cL_law 822 = .ok (.aload_n 1, 1) := by decide +kernel
theorem dL_law_823 : decode cL_law 823 = .ok (.aload_n 0, 1) := by decide +kernel
theorem dL_law_824 : decode cL_law 824 = .ok (.iload_n 3, 1) := by decide +kernel
theorem dL_law_825 : decode cL_law 825 = .ok (.iconst 1, 1) := by decide +kernel
theorem dL_law_826 : decode cL_law 826 = .ok (.iadd, 1) := by decide +kernel
theorem dL_law_827 : decode cL_law 827 = .ok (.iaload, 1) := by decide +kernel
theorem dL_law_828 : decode cL_law 828 = .ok (.invokevirtual 103, 3) := by decide +kernel
theorem dL_law_831 : decode cL_law 831 = .ok (.aload_n 2, 1) := by decide +kernel
theorem dL_law_832 : decode cL_law 832 = .ok (.aload_n 0, 1) := by decide +kernel
theorem dL_law_833 : decode cL_law 833 = .ok (.iload_n 3, 1) := by decide +kernel
theorem dL_law_834 : decode cL_law 834 = .ok (.iconst 1, 1) := by decide +kernel
theorem dL_law_835 : decode cL_law 835 = .ok (.iadd, 1) := by decide +kernel
theorem dL_law_836 : decode cL_law 836 = .ok (.iaload, 1) := by decide +kernel
theorem dL_law_837 : decode cL_law 837 = .ok (.invokevirtual 106, 3) := by decide +kernel
theorem dL_law_840 : decode cL_law 840 = .ok (.if_icmp .eq 406, 3) := by decide +kernel
theorem dL_law_843 : decode cL_law 843 = .ok (.iconst 0, 1) := by decide +kernel
theorem dL_law_844 : decode cL_law 844 = .ok (.ireturn, 1) := by decide +kernel
theorem dL_law_845 : decode cL_law 845 = .ok (.aload_n 1, 1) := by decide +kernel
theorem dL_law_846 : decode cL_law 846 = .ok (.aload_n 0, 1) := by decide +kernel
theorem dL_law_847 : decode cL_law 847 = .ok (.iload_n 3, 1) := by decide +kernel
theorem dL_law_848 : decode cL_law 848 = .ok (.iconst 1, 1) := by decide +kernel
theorem dL_law_849 : decode cL_law 849 = .ok (.iadd, 1) := by decide +kernel
theorem dL_law_850 : decode cL_law 850 = .ok (.iaload, 1) := by decide +kernel
theorem dL_law_851 : decode cL_law 851 = .ok (.invokevirtual 107, 3) := by decide +kernel
theorem dL_law_854 : decode cL_law 854 = .ok (.aload_n 2, 1) := by decide +kernel
theorem dL_law_855 : decode cL_law 855 = .ok (.aload_n 0, 1) := by decide +kernel
theorem dL_law_856 : decode cL_law 856 = .ok (.iload_n 3, 1) := by decide +kernel
theorem dL_law_857 : decode cL_law 857 = .ok (.iconst 1, 1) := by decide +kernel
theorem dL_law_858 : decode cL_law 858 = .ok (.iadd, 1) := by decide +kernel
theorem dL_law_859 : decode cL_law 859 = .ok (.iaload, 1) := by decide +kernel
theorem dL_law_860 : decode cL_law 860 = .ok (.invokevirtual 110, 3) := by decide +kernel
theorem dL_law_863 : decode cL_law 863 = .ok (.if_icmp .eq 383, 3) := by decide +kernel
theorem dL_law_866 : decode cL_law 866 = .ok (.iconst 0, 1) := by decide +kernel
theorem dL_law_867 : decode cL_law 867 = .ok (.ireturn, 1) := by decide +kernel
theorem dL_law_868 : decode cL_law 868 = .ok (.aload_n 1, 1) := by decide +kernel
theorem dL_law_869 : decode cL_law 869 = .ok (.aload_n 0, 1) := by decide +kernel
theorem dL_law_870 : decode cL_law 870 = .ok (.iload_n 3, 1) := by decide +kernel
theorem dL_law_871 : decode cL_law 871 = .ok (.iconst 1, 1) := by decide +kernel
theorem dL_law_872 : decode cL_law 872 = .ok (.iadd, 1) := by decide +kernel
theorem dL_law_873 : decode cL_law 873 = .ok (.iaload, 1) := by decide +kernel
theorem dL_law_874 : decode cL_law 874 = .ok (.aload_n 0, 1) := by decide +kernel
theorem dL_law_875 : decode cL_law 875 = .ok (.iload_n 3, 1) := by decide +kernel
theorem dL_law_876 : decode cL_law 876 = .ok (.iconst 2, 1) := by decide +kernel
theorem dL_law_877 : decode cL_law 877 = .ok (.iadd, 1) := by decide +kernel
theorem dL_law_878 : decode cL_law 878 = .ok (.iaload, 1) := by decide +kernel
theorem dL_law_879 : decode cL_law 879 = .ok (.invokevirtual 111, 3) := by decide +kernel
theorem dL_law_882 : decode cL_law 882 = .ok (.aload_n 2, 1) := by decide +kernel
theorem dL_law_883 : decode cL_law 883 = .ok (.aload_n 0, 1) := by decide +kernel
theorem dL_law_884 : decode cL_law 884 = .ok (.iload_n 3, 1) := by decide +kernel
theorem dL_law_885 : decode cL_law 885 = .ok (.iconst 1, 1) := by decide +kernel
theorem dL_law_886 : decode cL_law 886 = .ok (.iadd, 1) := by decide +kernel
theorem dL_law_887 : decode cL_law 887 = .ok (.iaload, 1) := by decide +kernel
theorem dL_law_888 : decode cL_law 888 = .ok (.aload_n 0, 1) := by decide +kernel
theorem dL_law_889 : decode cL_law 889 = .ok (.iload_n 3, 1) := by decide +kernel
theorem dL_law_890 : decode cL_law 890 = .ok (.iconst 2, 1) := by decide +kernel
theorem dL_law_891 : decode cL_law 891 = .ok (.iadd, 1) := by decide +kernel
theorem dL_law_892 : decode cL_law 892 = .ok (.iaload, 1) := by decide +kernel
theorem dL_law_893 : decode cL_law 893 = .ok (.invokevirtual 114, 3) := by decide +kernel
theorem dL_law_896 : decode cL_law 896 = .ok (.if_icmp .eq 350, 3) := by decide +kernel
theorem dL_law_899 : decode cL_law 899 = .ok (.iconst 0, 1) := by decide +kernel
theorem dL_law_900 : decode cL_law 900 = .ok (.ireturn, 1) := by decide +kernel
theorem dL_law_901 : decode cL_law 901 = .ok (.aload_n 1, 1) := by decide +kernel
theorem dL_law_902 : decode cL_law 902 = .ok (.aload_n 0, 1) := by decide +kernel
theorem dL_law_903 : decode cL_law 903 = .ok (.iload_n 3, 1) := by decide +kernel
theorem dL_law_904 : decode cL_law 904 = .ok (.iconst 1, 1) := by decide +kernel
theorem dL_law_905 : decode cL_law 905 = .ok (.iadd, 1) := by decide +kernel
theorem dL_law_906 : decode cL_law 906 = .ok (.iaload, 1) := by decide +kernel
theorem dL_law_907 : decode cL_law 907 = .ok (.aload_n 0, 1) := by decide +kernel
theorem dL_law_908 : decode cL_law 908 = .ok (.iload_n 3, 1) := by decide +kernel
theorem dL_law_909 : decode cL_law 909 = .ok (.iconst 2, 1) := by decide +kernel
theorem dL_law_910 : decode cL_law 910 = .ok (.iadd, 1) := by decide +kernel
theorem dL_law_911 : decode cL_law 911 = .ok (.iaload, 1) := by decide +kernel
theorem dL_law_912 : decode cL_law 912 = .ok (.invokevirtual 115, 3) := by decide +kernel
theorem dL_law_915 : decode cL_law 915 = .ok (.aload_n 2, 1) := by decide +kernel
theorem dL_law_916 : decode cL_law 916 = .ok (.aload_n 0, 1) := by decide +kernel
theorem dL_law_917 : decode cL_law 917 = .ok (.iload_n 3, 1) := by decide +kernel
theorem dL_law_918 : decode cL_law 918 = .ok (.iconst 1, 1) := by decide +kernel
theorem dL_law_919 : decode cL_law 919 = .ok (.iadd, 1) := by decide +kernel
theorem dL_law_920 : decode cL_law 920 = .ok (.iaload, 1) := by decide +kernel
theorem dL_law_921 : decode cL_law 921 = .ok (.aload_n 0, 1) := by decide +kernel
theorem dL_law_922 : decode cL_law 922 = .ok (.iload_n 3, 1) := by decide +kernel
theorem dL_law_923 : decode cL_law 923 = .ok (.iconst 2, 1) := by decide +kernel
theorem dL_law_924 : decode cL_law 924 = .ok (.iadd, 1) := by decide +kernel
theorem dL_law_925 : decode cL_law 925 = .ok (.iaload, 1) := by decide +kernel
theorem dL_law_926 : decode cL_law 926 = .ok (.invokevirtual 118, 3) := by decide +kernel
theorem dL_law_929 : decode cL_law 929 = .ok (.if_icmp .eq 317, 3) := by decide +kernel
theorem dL_law_932 : decode cL_law 932 = .ok (.iconst 0, 1) := by decide +kernel
theorem dL_law_933 : decode cL_law 933 = .ok (.ireturn, 1) := by decide +kernel
theorem dL_law_934 : decode cL_law 934 = .ok (.aload_n 1, 1) := by decide +kernel
theorem dL_law_935 : decode cL_law 935 = .ok (.invokevirtual 119, 3) := by decide +kernel
theorem dL_law_938 : decode cL_law 938 = .ok (.aload_n 2, 1) := by decide +kernel
theorem dL_law_939 : decode cL_law 939 = .ok (.invokevirtual 122, 3) := by decide +kernel
theorem dL_law_942 : decode cL_law 942 = .ok (.if_icmp .eq 304, 3) := by decide +kernel
theorem dL_law_945 : decode cL_law 945 = .ok (.iconst 0, 1) := by decide +kernel
theorem dL_law_946 : decode cL_law 946 = .ok (.ireturn, 1) := by decide +kernel
theorem dL_law_947 : decode cL_law 947 = .ok (.aload_n 1, 1) := by decide +kernel
theorem dL_law_948 : decode cL_law 948 = .ok (.invokevirtual 123, 3) := by decide +kernel
theorem dL_law_951 : decode cL_law 951 = .ok (.aload_n 2, 1) := by decide +kernel
theorem dL_law_952 : decode cL_law 952 = .ok (.invokevirtual 126, 3) := by decide +kernel
theorem dL_law_955 : decode cL_law 955 = .ok (.if_icmp .eq 291, 3) := by decide +kernel
theorem dL_law_958 : decode cL_law 958 = .ok (.iconst 0, 1) := by decide +kernel
theorem dL_law_959 : decode cL_law 959 = .ok (.ireturn, 1) := by decide +kernel
theorem dL_law_960 : decode cL_law 960 = .ok (.aload_n 1, 1) := by decide +kernel
theorem dL_law_961 : decode cL_law 961 = .ok (.aload_n 0, 1) := by decide +kernel
theorem dL_law_962 : decode cL_law 962 = .ok (.iload_n 3, 1) := by decide +kernel
theorem dL_law_963 : decode cL_law 963 = .ok (.iconst 1, 1) := by decide +kernel
theorem dL_law_964 : decode cL_law 964 = .ok (.iadd, 1) := by decide +kernel
theorem dL_law_965 : decode cL_law 965 = .ok (.iaload, 1) := by decide +kernel
theorem dL_law_966 : decode cL_law 966 = .ok (.aload_n 0, 1) := by decide +kernel
theorem dL_law_967 : decode cL_law 967 = .ok (.iload_n 3, 1) := by decide +kernel
theorem dL_law_968 : decode cL_law 968 = .ok (.iconst 2, 1) := by decide +kernel
theorem dL_law_969 : decode cL_law 969 = .ok (.iadd, 1) := by decide +kernel
theorem dL_law_970 : decode cL_law 970 = .ok (.iaload, 1) := by decide +kernel
theorem dL_law_971 : decode cL_law 971 = .ok (.invokevirtual 127, 3) := by decide +kernel
theorem dL_law_974 : decode cL_law 974 = .ok (.aload_n 2, 1) := by decide +kernel
theorem dL_law_975 : decode cL_law 975 = .ok (.aload_n 0, 1) := by decide +kernel
theorem dL_law_976 : decode cL_law 976 = .ok (.iload_n 3, 1) := by decide +kernel
theorem dL_law_977 : decode cL_law 977 = .ok (.iconst 1, 1) := by decide +kernel
theorem dL_law_978 : decode cL_law 978 = .ok (.iadd, 1) := by decide +kernel
theorem dL_law_979 : decode cL_law 979 = .ok (.iaload, 1) := by decide +kernel
theorem dL_law_980 : decode cL_law 980 = .ok (.aload_n 0, 1) := by decide +kernel
theorem dL_law_981 : decode cL_law 981 = .ok (.iload_n 3, 1) := by decide +kernel
theorem dL_law_982 : decode cL_law 982 = .ok (.iconst 2, 1) := by decide +kernel
theorem dL_law_983 : decode cL_law 983 = .ok (.iadd, 1) := by decide +kernel
theorem dL_law_984 : decode cL_law 984 = .ok (.iaload, 1) := by decide +kernel
theorem dL_law_985 : decode cL_law 985 = .ok (.invokevirtual 130, 3) := by decide +kernel
theorem dL_law_988 : decode cL_law 988 = .ok (.if_icmp .eq 258, 3) := by decide +kernel
theorem dL_law_991 : decode cL_law 991 = .ok (.iconst 0, 1) := by decide +kernel
theorem dL_law_992 : decode cL_law 992 = .ok (.ireturn, 1) := by decide +kernel
theorem dL_law_993 : decode cL_law 993 = .ok (.aload_n 1, 1) := by decide +kernel
theorem dL_law_994 : decode cL_law 994 = .ok (.aload_n 0, 1) := by decide +kernel
theorem dL_law_995 : decode cL_law 995 = .ok (.iload_n 3, 1) := by decide +kernel
theorem dL_law_996 : decode cL_law 996 = .ok (.iconst 1, 1) := by decide +kernel
theorem dL_law_997 : decode cL_law 997 = .ok (.iadd, 1) := by decide +kernel
theorem dL_law_998 : decode cL_law 998 = .ok (.iaload, 1) := by decide +kernel
theorem dL_law_999 : decode cL_law 999 = .ok (.aload_n 0, 1) := by decide +kernel
theorem dL_law_1000 : decode cL_law 1000 = .ok (.iload_n 3, 1) := by decide +kernel
theorem dL_law_1001 : decode cL_law 1001 = .ok (.iconst 2, 1) := by decide +kernel
theorem dL_law_1002 : decode cL_law 1002 = .ok (.iadd, 1) := by decide +kernel
theorem dL_law_1003 : decode cL_law 1003 = .ok (.iaload, 1) := by decide +kernel
theorem dL_law_1004 : decode cL_law 1004 = .ok (.aload_n 0, 1) := by decide +kernel
theorem dL_law_1005 : decode cL_law 1005 = .ok (.iload_n 3, 1) := by decide +kernel
theorem dL_law_1006 : decode cL_law 1006 = .ok (.iconst 3, 1) := by decide +kernel
theorem dL_law_1007 : decode cL_law 1007 = .ok (.iadd, 1) := by decide +kernel
theorem dL_law_1008 : decode cL_law 1008 = .ok (.iaload, 1) := by decide +kernel
theorem dL_law_1009 : decode cL_law 1009 = .ok (.invokevirtual 131, 3) := by decide +kernel
theorem dL_law_1012 : decode cL_law 1012 = .ok (.aload_n 2, 1) := by decide +kernel
theorem dL_law_1013 : decode cL_law 1013 = .ok (.aload_n 0, 1) := by decide +kernel
theorem dL_law_1014 : decode cL_law 1014 = .ok (.iload_n 3, 1) := by decide +kernel
theorem dL_law_1015 : decode cL_law 1015 = .ok (.iconst 1, 1) := by decide +kernel
theorem dL_law_1016 : decode cL_law 1016 = .ok (.iadd, 1) := by decide +kernel
theorem dL_law_1017 : decode cL_law 1017 = .ok (.iaload, 1) := by decide +kernel
theorem dL_law_1018 : decode cL_law 1018 = .ok (.aload_n 0, 1) := by decide +kernel
theorem dL_law_1019 : decode cL_law 1019 = .ok (.iload_n 3, 1) := by decide +kernel
theorem dL_law_1020 : decode cL_law 1020 = .ok (.iconst 2, 1) := by decide +kernel
theorem dL_law_1021 : decode cL_law 1021 = .ok (.iadd, 1) := by decide +kernel
theorem dL_law_1022 : decode cL_law 1022 = .ok (.iaload, 1) := by decide +kernel
theorem dL_law_1023 : decode cL_law 1023 = .ok (.aload_n 0, 1) := by decide +kernel
theorem dL_law_1024 : decode cL_law 1024 = .ok (.iload_n 3, 1) := by decide +kernel
theorem dL_law_1025 : decode cL_law 1025 = .ok (.iconst 3, 1) := by decide +kernel
theorem dL_law_1026 : decode cL_law 1026 = .ok (.iadd, 1) := by decide +kernel
theorem dL_law_1027 : decode cL_law 1027 = .ok (.iaload, 1) := by decide +kernel
theorem dL_law_1028 : decode cL_law 1028 = .ok (.invokevirtual 134, 3) := by decide +kernel
theorem dL_law_1031 : decode cL_law 1031 = .ok (.if_icmp .eq 215, 3) := by decide +kernel
theorem dL_law_1034 : decode cL_law 1034 = .ok (.iconst 0, 1) := by decide +kernel
theorem dL_law_1035 : decode cL_law 1035 = .ok (.ireturn, 1) := by decide +kernel
theorem dL_law_1036 : decode cL_law 1036 = .ok (.aload_n 1, 1) := by decide +kernel
theorem dL_law_1037 : decode cL_law 1037 = .ok (.invokevirtual 135, 3) := by decide +kernel
theorem dL_law_1040 : decode cL_law 1040 = .ok (.aload_n 2, 1) := by decide +kernel
theorem dL_law_1041 : decode cL_law 1041 = .ok (.invokevirtual 138, 3) := by decide +kernel
theorem dL_law_1044 : decode cL_law 1044 = .ok (.if_icmp .eq 202, 3) := by decide +kernel
theorem dL_law_1047 : decode cL_law 1047 = .ok (.iconst 0, 1) := by decide +kernel
theorem dL_law_1048 : decode cL_law 1048 = .ok (.ireturn, 1) := by decide +kernel
theorem dL_law_1049 : decode cL_law 1049 = .ok (.aload_n 1, 1) := by decide +kernel
theorem dL_law_1050 : decode cL_law 1050 = .ok (.invokevirtual 139, 3) := by decide +kernel
theorem dL_law_1053 : decode cL_law 1053 = .ok (.aload_n 2, 1) := by decide +kernel
theorem dL_law_1054 : decode cL_law 1054 = .ok (.invokevirtual 142, 3) := by decide +kernel
theorem dL_law_1057 : decode cL_law 1057 = .ok (.if_icmp .eq 189, 3) := by decide +kernel
theorem dL_law_1060 : decode cL_law 1060 = .ok (.iconst 0, 1) := by decide +kernel
theorem dL_law_1061 : decode cL_law 1061 = .ok (.ireturn, 1) := by decide +kernel
theorem dL_law_1062 : decode cL_law 1062 = .ok (.aload_n 1, 1) := by decide +kernel
theorem dL_law_1063 : decode cL_law 1063 = .ok (.invokevirtual 143, 3) := by decide +kernel
theorem dL_law_1066 : decode cL_law 1066 = .ok (.aload_n 2, 1) := by decide +kernel
theorem dL_law_1067 : decode cL_law 1067 = .ok (.invokevirtual 146, 3) := by decide +kernel
theorem dL_law_1070 : decode cL_law 1070 = .ok (.if_icmp .eq 176, 3) := by decide +kernel
theorem dL_law_1073 : decode cL_law 1073 = .ok (.iconst 0, 1) := by decide +kernel
theorem dL_law_1074 : decode cL_law 1074 = .ok (.ireturn, 1) := by decide +kernel
theorem dL_law_1075 : decode cL_law 1075 = .ok (.aload_n 1, 1) := by decide +kernel
theorem dL_law_1076 : decode cL_law 1076 = .ok (.aload_n 0, 1) := by decide +kernel
theorem dL_law_1077 : decode cL_law 1077 = .ok (.iload_n 3, 1) := by decide +kernel
theorem dL_law_1078 : decode cL_law 1078 = .ok (.iconst 1, 1) := by decide +kernel
theorem dL_law_1079 : decode cL_law 1079 = .ok (.iadd, 1) := by decide +kernel
theorem dL_law_1080 : decode cL_law 1080 = .ok (.iaload, 1) := by decide +kernel
theorem dL_law_1081 : decode cL_law 1081 = .ok (.invokevirtual 147, 3) := by decide +kernel
theorem dL_law_1084 : decode cL_law 1084 = .ok (.aload_n 2, 1) := by decide +kernel
theorem dL_law_1085 : decode cL_law 1085 = .ok (.aload_n 0, 1) := by decide +kernel
theorem dL_law_1086 : decode cL_law 1086 = .ok (.iload_n 3, 1) := by decide +kernel
theorem dL_law_1087 : decode cL_law 1087 = .ok (.iconst 1, 1) := by decide +kernel
theorem dL_law_1088 : decode cL_law 1088 = .ok (.iadd, 1) := by decide +kernel
theorem dL_law_1089 : decode cL_law 1089 = .ok (.iaload, 1) := by decide +kernel
theorem dL_law_1090 : decode cL_law 1090 = .ok (.invokevirtual 150, 3) := by decide +kernel
theorem dL_law_1093 : decode cL_law 1093 = .ok (.if_icmp .eq 153, 3) := by decide +kernel
theorem dL_law_1096 : decode cL_law 1096 = .ok (.iconst 0, 1) := by decide +kernel
theorem dL_law_1097 : decode cL_law 1097 = .ok (.ireturn, 1) := by decide +kernel
theorem dL_law_1098 : decode cL_law 1098 = .ok (.aload_n 1, 1) := by decide +kernel
theorem dL_law_1099 : decode cL_law 1099 = .ok (.aload_n 0, 1) := by decide +kernel
theorem dL_law_1100 : decode cL_law 1100 = .ok (.iload_n 3, 1) := by decide +kernel
theorem dL_law_1101 : decode cL_law 1101 = .ok (.iconst 1, 1) := by decide +kernel
theorem dL_law_1102 : decode cL_law 1102 = .ok (.iadd, 1) := by decide +kernel
theorem dL_law_1103 : decode cL_law 1103 = .ok (.iaload, 1) := by decide +kernel
theorem dL_law_1104 : decode cL_law 1104 = .ok (.invokevirtual 151, 3) := by decide +kernel
theorem dL_law_1107 : decode cL_law 1107 = .ok (.aload_n 2, 1) := by decide +kernel
theorem dL_law_1108 : decode cL_law 1108 = .ok (.aload_n 0, 1) := by decide +kernel
theorem dL_law_1109 : decode cL_law 1109 = .ok (.iload_n 3, 1) := by decide +kernel
theorem dL_law_1110 : decode cL_law 1110 = .ok (.iconst 1, 1) := by decide +kernel
theorem dL_law_1111 : decode cL_law 1111 = .ok (.iadd, 1) := by decide +kernel
theorem dL_law_1112 : decode cL_law 1112 = .ok (.iaload, 1) := by decide +kernel
theorem dL_law_1113 : decode cL_law 1113 = .ok (.invokevirtual 154, 3) := by decide +kernel
theorem dL_law_1116 : decode cL_law 1116 = .ok (.if_icmp .eq 130, 3) := by decide +kernel
theorem dL_law_1119 : decode cL_law 1119 = .ok (.iconst 0, 1) := by decide +kernel
theorem dL_law_1120 : decode cL_law 1120 = .ok (.ireturn, 1) := by decide +kernel
theorem dL_law_1121 : decode cL_law 1121 = .ok (.aload_n 1, 1) := by decide +kernel
theorem dL_law_1122 : decode cL_law 1122 = .ok (.aload_n 0, 1) := by decide +kernel
theorem dL_law_1123 : decode cL_law 1123 = .ok (.iload_n 3, 1) := by decide +kernel
theorem dL_law_1124 : decode cL_law 1124 = .ok (.iconst 1, 1) := by decide +kernel
theorem dL_law_1125 : decode cL_law 1125 = .ok (.iadd, 1) := by decide +kernel
theorem dL_law_1126 : decode cL_law 1126 = .ok (.iaload, 1) := by decide +kernel
theorem dL_law_1127 : decode cL_law 1127 = .ok (.invokevirtual 155, 3) := by decide +kernel
theorem dL_law_1130 : decode cL_law 1130 = .ok (.aload_n 2, 1) := by decide +kernel
theorem dL_law_1131 : decode cL_law 1131 = .ok (.aload_n 0, 1) := by decide +kernel
theorem dL_law_1132 : decode cL_law 1132 = .ok (.iload_n 3, 1) := by decide +kernel
theorem dL_law_1133 : decode cL_law 1133 = .ok (.iconst 1, 1) := by decide +kernel
theorem dL_law_1134 : decode cL_law 1134 = .ok (.iadd, 1) := by decide +kernel
theorem dL_law_1135 : decode cL_law 1135 = .ok (.iaload, 1) := by decide +kernel
theorem dL_law_1136 : decode cL_law 1136 = .ok (.invokevirtual 158, 3) := by decide +kernel
theorem dL_law_1139 : decode cL_law 1139 = .ok (.if_icmp .eq 107, 3) := by decide +kernel
theorem dL_law_1142 : decode cL_law 1142 = .ok (.iconst 0, 1) := by decide +kernel
theorem dL_law_1143 : decode cL_law 1143 = .ok (.ireturn, 1) := by decide +kernel
theorem dL_law_1144 : decode cL_law 1144 = .ok (.aload_n 1, 1) := by decide +kernel
theorem dL_law_1145 : decode cL_law 1145 = .ok (.invokevirtual 159, 3) := by decide +kernel
theorem dL_law_1148 : decode cL_law 1148 = .ok (.aload_n 2, 1) := by decide +kernel
theorem dL_law_1149 : decode cL_law 1149 = .ok (.invokevirtual 162, 3) := by decide +kernel
theorem dL_law_1152 : decode cL_law 1152 = .ok (.if_icmp .eq 94, 3) := by decide +kernel
theorem dL_law_1155 : decode cL_law 1155 = .ok (.iconst 0, 1) := by decide +kernel
theorem dL_law_1156 : decode cL_law 1156 = .ok (.ireturn, 1) := by decide +kernel
theorem dL_law_1157 : decode cL_law 1157 = .ok (.aload_n 1, 1) := by decide +kernel
theorem dL_law_1158 : decode cL_law 1158 = .ok (.aload_n 0, 1) := by decide +kernel
theorem dL_law_1159 : decode cL_law 1159 = .ok (.iload_n 3, 1) := by decide +kernel
theorem dL_law_1160 : decode cL_law 1160 = .ok (.iconst 1, 1) := by decide +kernel
theorem dL_law_1161 : decode cL_law 1161 = .ok (.iadd, 1) := by decide +kernel
theorem dL_law_1162 : decode cL_law 1162 = .ok (.iaload, 1) := by decide +kernel
theorem dL_law_1163 : decode cL_law 1163 = .ok (.invokevirtual 163, 3) := by decide +kernel
theorem dL_law_1166 : decode cL_law 1166 = .ok (.aload_n 2, 1) := by decide +kernel
theorem dL_law_1167 : decode cL_law 1167 = .ok (.aload_n 0, 1) := by decide +kernel
theorem dL_law_1168 : decode cL_law 1168 = .ok (.iload_n 3, 1) := by decide +kernel
theorem dL_law_1169 : decode cL_law 1169 = .ok (.iconst 1, 1) := by decide +kernel
theorem dL_law_1170 : decode cL_law 1170 = .ok (.iadd, 1) := by decide +kernel
theorem dL_law_1171 : decode cL_law 1171 = .ok (.iaload, 1) := by decide +kernel
theorem dL_law_1172 : decode cL_law 1172 = .ok (.invokevirtual 166, 3) := by decide +kernel
theorem dL_law_1175 : decode cL_law 1175 = .ok (.if_icmp .eq 71, 3) := by decide +kernel
theorem dL_law_1178 : decode cL_law 1178 = .ok (.iconst 0, 1) := by decide +kernel
theorem dL_law_1179 : decode cL_law 1179 = .ok (.ireturn, 1) := by decide +kernel
theorem dL_law_1180 : decode cL_law 1180 = .ok (.aload_n 1, 1) := by decide +kernel
theorem dL_law_1181 : decode cL_law 1181 = .ok (.aload_n 0, 1) := by decide +kernel
theorem dL_law_1182 : decode cL_law 1182 = .ok (.iload_n 3, 1) := by decide +kernel
theorem dL_law_1183 : decode cL_law 1183 = .ok (.iconst 1, 1) := by decide +kernel
theorem dL_law_1184 : decode cL_law 1184 = .ok (.iadd, 1) := by decide +kernel
theorem dL_law_1185 : decode cL_law 1185 = .ok (.iaload, 1) := by decide +kernel
theorem dL_law_1186 : decode cL_law 1186 = .ok (.aload_n 0, 1) := by decide +kernel
theorem dL_law_1187 : decode cL_law 1187 = .ok (.iload_n 3, 1) := by decide +kernel
theorem dL_law_1188 : decode cL_law 1188 = .ok (.iconst 2, 1) := by decide +kernel
theorem dL_law_1189 : decode cL_law 1189 = .ok (.iadd, 1) := by decide +kernel
theorem dL_law_1190 : decode cL_law 1190 = .ok (.iaload, 1) := by decide +kernel
theorem dL_law_1191 : decode cL_law 1191 = .ok (.aload_n 0, 1) := by decide +kernel
theorem dL_law_1192 : decode cL_law 1192 = .ok (.iload_n 3, 1) := by decide +kernel
theorem dL_law_1193 : decode cL_law 1193 = .ok (.iconst 3, 1) := by decide +kernel
theorem dL_law_1194 : decode cL_law 1194 = .ok (.iadd, 1) := by decide +kernel
theorem dL_law_1195 : decode cL_law 1195 = .ok (.iaload, 1) := by decide +kernel
theorem dL_law_1196 : decode cL_law 1196 = .ok (.invokevirtual 167, 3) := by decide +kernel
theorem dL_law_1199 : decode cL_law 1199 = .ok (.aload_n 2, 1) := by decide +kernel
theorem dL_law_1200 : decode cL_law 1200 = .ok (.aload_n 0, 1) := by decide +kernel
theorem dL_law_1201 : decode cL_law 1201 = .ok (.iload_n 3, 1) := by decide +kernel
theorem dL_law_1202 : decode cL_law 1202 = .ok (.iconst 1, 1) := by decide +kernel
theorem dL_law_1203 : decode cL_law 1203 = .ok (.iadd, 1) := by decide +kernel
theorem dL_law_1204 : decode cL_law 1204 = .ok (.iaload, 1) := by decide +kernel
theorem dL_law_1205 : decode cL_law 1205 = .ok (.aload_n 0, 1) := by decide +kernel
theorem dL_law_1206 : decode cL_law 1206 = .ok (.iload_n 3, 1) := by decide +kernel
theorem dL_law_1207 : decode cL_law 1207 = .ok (.iconst 2, 1) := by decide +kernel
theorem dL_law_1208 : decode cL_law 1208 = .ok (.iadd, 1) := by decide +kernel
theorem dL_law_1209 : decode cL_law 1209 = .ok (.iaload, 1) := by decide +kernel
theorem dL_law_1210 : decode cL_law 1210 = .ok (.aload_n 0, 1) := by decide +kernel
theorem dL_law_1211 : decode cL_law 1211 = .ok (.iload_n 3, 1) := by decide +kernel
theorem dL_law_1212 : decode cL_law 1212 = .ok (.iconst 3, 1) := by decide +kernel
theorem dL_law_1213 : decode cL_law 1213 = .ok (.iadd, 1) := by decide +kernel
theorem dL_law_1214 : decode cL_law 1214 = .ok (.iaload, 1) := by decide +kernel
theorem dL_law_1215 : decode cL_law 1215 = .ok (.invokevirtual 170, 3) := by decide +kernel
theorem dL_law_1218 : decode cL_law 1218 = .ok (.if_icmp .eq 28, 3) := by decide +kernel
theorem dL_law_1221 : decode cL_law 1221 = .ok (.iconst 0, 1) := by decide +kernel
theorem dL_law_1222 : decode cL_law 1222 = .ok (.ireturn, 1) := by decide +kernel
theorem dL_law_1223 : decode cL_law 1223 = .ok (.aload_n 1, 1) := by decide +kernel
theorem dL_law_1224 : decode cL_law 1224 = .ok (.aload_n 0, 1) := by decide +kernel
theorem dL_law_1225 : decode cL_law 1225 = .ok (.iload_n 3, 1) := by decide +kernel
theorem dL_law_1226 : decode cL_law 1226 = .ok (.iconst 1, 1) := by decide +kernel
theorem dL_law_1227 : decode cL_law 1227 = .ok (.iadd, 1) := by decide +kernel
theorem dL_law_1228 : decode cL_law 1228 = .ok (.iaload, 1) := by decide +kernel
theorem dL_law_1229 : decode cL_law 1229 = .ok (.invokevirtual 171, 3) := by decide +kernel
theorem dL_law_1232 : decode cL_law 1232 = .ok (.aload_n 2, 1) := by decide +kernel
theorem dL_law_1233 : decode cL_law 1233 = .ok (.aload_n 0, 1) := by decide +kernel
theorem dL_law_1234 : decode cL_law 1234 = .ok (.iload_n 3, 1) := by decide +kernel
theorem dL_law_1235 : decode cL_law 1235 = .ok (.iconst 1, 1) := by decide +kernel
theorem dL_law_1236 : decode cL_law 1236 = .ok (.iadd, 1) := by decide +kernel
theorem dL_law_1237 : decode cL_law 1237 = .ok (.iaload, 1) := by decide +kernel
theorem dL_law_1238 : decode cL_law 1238 = .ok (.invokevirtual 174, 3) := by decide +kernel
theorem dL_law_1241 : decode cL_law 1241 = .ok (.if_icmp .eq 5, 3) := by decide +kernel
theorem dL_law_1244 : decode cL_law 1244 = .ok (.iconst 0, 1) := by decide +kernel
theorem dL_law_1245 : decode cL_law 1245 = .ok (.ireturn, 1) := by decide +kernel
theorem dL_law_1246 : decode cL_law 1246 = .ok (.iinc 3 5, 3) := by decide +kernel
theorem dL_law_1249 : decode cL_law 1249 = .ok (.goto (-1231), 3) := by decide +kernel
theorem dL_law_1252 : decode cL_law 1252 = .ok (.iconst 1, 1) := by decide +kernel
theorem dL_law_1253 : decode cL_law 1253 = .ok (.ireturn, 1) := by decide +kernel
set_option maxHeartbeats 4000000 in
set_option maxRecDepth 100000 in
theorem wL_law_1246 {p : Program} {l : Launch} {e : Env} {s : State} {m : MethodId} {b : Nat} {below : List Frame} {meth : Method} {c : Code} (bs : Nat) (D : va_G) (y : Y3) (n : Nat) (L : Nat) (xs : Nat → Int32) (k18_ : Int32 → MI → MJ → Option (Unit)) (r : Unit) (Gc : GL p s m meth c b L xs bs D y) (hk18_ : ∀ (x3 : Int32) (I : MI) (J : MJ) (H : Heap) (locs : List Loc) (ls : Array Slot), va_P D vwCl (wl bs y I J) H → va_S (FA bs) s.heap H locs → lv_has ls 4 [(0, .ref b), (1, .ref (bs + 0)), (2, .ref (bs + 44)), (3, .int x3)] → k18_ x3 I J = some r → W p l e room_1 s m #[Value.ref b] below meth c H locs 76 8771 (lw_Z below #[Value.ref b] s) (F0 m 18 ls [])) (x3 : Int32) (I : MI) (J : MJ) (H : Heap) (locs : List Loc) (ls : Array Slot) (hP : va_P D vwCl (wl bs y I J) H) (hS : va_S (FA bs) s.heap H locs) (hl : lv_has ls 4 [(0, .ref b), (1, .ref (bs + 0)), (2, .ref (bs + 44)), (3, .int x3)]) (h : fL_law_1246 n L xs k18_ x3 I J = some r) : W p l e room_1 s m #[Value.ref b] below meth c H locs 76 8771 (lw_Z below #[Value.ref b] s) (F0 m 1246 ls []) := by
  obtain ⟨hx, hb, hml, hown, hts, hK, hN, hL, hr, hlocks, hcb, hX, hbl, hbs⟩ := id Gc
  have hbA : ¬ FA bs b := by rw [hbs]; exact Nat.not_le.mpr hbl
  unfold fL_law_1246 at h
  refine lv_iinc (v := (x3 + (5 : Int32))) (lv' := [(3, .int (x3 + (5 : Int32))), (0, .ref b), (1, .ref (bs + 0)), (2, .ref (bs + 44))]) hx hb dL_law_1246 hl (k := 3) rfl rfl (by decide) rfl (fun ls hl => ?_)
  refine lv_goto (tgt := 18) hx hb dL_law_1249 (by decide) ?_
  exact hk18_ (x3 + (5 : Int32)) I J _ _ _ hP hS (lv_sub hl [1, 2, 3, 0] rfl) h
set_option maxHeartbeats 4000000 in
set_option maxRecDepth 100000 in
theorem wL_law_1223 {p : Program} {l : Launch} {e : Env} {s : State} {m : MethodId} {b : Nat} {below : List Frame} {meth : Method} {c : Code} (bs : Nat) (D : va_G) (y : Y3) (n : Nat) (L : Nat) (xs : Nat → Int32) (k18_ : Int32 → MI → MJ → Option (Unit)) (r : Unit) (Gc : GL p s m meth c b L xs bs D y) (hk18_ : ∀ (x3 : Int32) (I : MI) (J : MJ) (H : Heap) (locs : List Loc) (ls : Array Slot), va_P D vwCl (wl bs y I J) H → va_S (FA bs) s.heap H locs → lv_has ls 4 [(0, .ref b), (1, .ref (bs + 0)), (2, .ref (bs + 44)), (3, .int x3)] → k18_ x3 I J = some r → W p l e room_1 s m #[Value.ref b] below meth c H locs 76 8771 (lw_Z below #[Value.ref b] s) (F0 m 18 ls [])) (x3 : Int32) (I : MI) (J : MJ) (H : Heap) (locs : List Loc) (ls : Array Slot) (hP : va_P D vwCl (wl bs y I J) H) (hS : va_S (FA bs) s.heap H locs) (hl : lv_has ls 4 [(0, .ref b), (1, .ref (bs + 0)), (2, .ref (bs + 44)), (3, .int x3)]) (h : fL_law_1223 n L xs k18_ x3 I J = some r) : W p l e room_1 s m #[Value.ref b] below meth c H locs 76 8771 (lw_Z below #[Value.ref b] s) (F0 m 1223 ls []) := by
  obtain ⟨hx, hb, hml, hown, hts, hK, hN, hL, hr, hlocks, hcb, hX, hbl, hbs⟩ := id Gc
  have hbA : ¬ FA bs b := by rw [hbs]; exact Nat.not_le.mpr hbl
  unfold fL_law_1223 at h
  refine lv_aload_n hx hb dL_law_1223 rfl (lv_at hl 1 rfl) ?_
  refine lv_aload_n hx hb dL_law_1224 rfl (lv_at hl 0 rfl) ?_
  refine lv_iload_n hx hb dL_law_1225 rfl (lv_at hl 3 rfl) ?_
  refine lv_iconst (v := (1 : Int32)) hx hb dL_law_1226 (by decide) ?_
  refine lv_iadd hx hb dL_law_1227 ?_
  obtain ⟨hi1228, h⟩ := if_s1 h
  refine va_sld hx hb hX hbl hbA hS (inb_in hi1228) dL_law_1228 ?_
  obtain ⟨r1229, er1229, h⟩ := bd_s1 h
  refine c_VI (k := 0) (ci := 9) (As := [.int (xs ((x3 + (1 : Int32))).toNatClampNeg)]) (rest := []) hx hb hml hown hts hK hN hL hP hS (cX9_status_ l bs D y (Nat.le_trans (by decide) hcb) n (xs ((x3 + (1 : Int32))).toNatClampNeg) I J r1229 er1229) ok_X9_status ov_X9_status ml_168 ⟨Nat.le_of_ble_eq_true rfl, Nat.le_of_ble_eq_true rfl⟩ rfl hcb kd_0_76 hl.1 rfl rfl (Nat.le_of_ble_eq_true rfl) ⟨Nat.le_of_ble_eq_true rfl, Nat.le_of_ble_eq_true rfl⟩ dL_law_1229 (fun H locs hP hS => ?_)
  refine lv_aload_n hx hb dL_law_1232 rfl (lv_at hl 2 rfl) ?_
  refine lv_aload_n hx hb dL_law_1233 rfl (lv_at hl 0 rfl) ?_
  refine lv_iload_n hx hb dL_law_1234 rfl (lv_at hl 3 rfl) ?_
  refine lv_iconst (v := (1 : Int32)) hx hb dL_law_1235 (by decide) ?_
  refine lv_iadd hx hb dL_law_1236 ?_
  obtain ⟨hi1237, h⟩ := if_s1 h
  refine va_sld hx hb hX hbl hbA hS (inb_in hi1237) dL_law_1237 ?_
  obtain ⟨r1238, er1238, h⟩ := bd_s1 h
  refine c_VI (k := 44) (ci := 10) (As := [.int (xs ((x3 + (1 : Int32))).toNatClampNeg)]) (rest := [.int r1229.1]) hx hb hml hown hts hK hN hL hP hS (cX10_status_ l bs D y hcb n (xs ((x3 + (1 : Int32))).toNatClampNeg) r1229.2.1 r1229.2.2 r1238 er1238) ok_X10_status ov_X10_status ml_169 ⟨Nat.le_of_ble_eq_true rfl, Nat.le_of_ble_eq_true rfl⟩ rfl hcb kd_44_76 hl.1 rfl rfl (Nat.le_of_ble_eq_true rfl) ⟨Nat.le_of_ble_eq_true rfl, Nat.le_of_ble_eq_true rfl⟩ dL_law_1238 (fun H locs hP hS => ?_)
  refine lv_icmp_eq (tgt := 1246) hx hb dL_law_1241 (by decide) (fun c1241 => ?_) (fun c1241 => ?_)
  · replace h := if_t c1241 h
    exact wL_law_1246 bs D y n L xs k18_ r Gc hk18_ x3 r1238.2.1 r1238.2.2 _ _ _ hP hS (lv_sub hl [0, 1, 2, 3] rfl) h
  · replace h := if_f c1241 h
    refine lv_iconst (v := (0 : Int32)) hx hb dL_law_1244 (by decide) ?_
    cases h
set_option maxHeartbeats 4000000 in
set_option maxRecDepth 100000 in
theorem wL_law_1180 {p : Program} {l : Launch} {e : Env} {s : State} {m : MethodId} {b : Nat} {below : List Frame} {meth : Method} {c : Code} (bs : Nat) (D : va_G) (y : Y3) (n : Nat) (L : Nat) (xs : Nat → Int32) (k18_ : Int32 → MI → MJ → Option (Unit)) (r : Unit) (Gc : GL p s m meth c b L xs bs D y) (hk18_ : ∀ (x3 : Int32) (I : MI) (J : MJ) (H : Heap) (locs : List Loc) (ls : Array Slot), va_P D vwCl (wl bs y I J) H → va_S (FA bs) s.heap H locs → lv_has ls 4 [(0, .ref b), (1, .ref (bs + 0)), (2, .ref (bs + 44)), (3, .int x3)] → k18_ x3 I J = some r → W p l e room_1 s m #[Value.ref b] below meth c H locs 76 8771 (lw_Z below #[Value.ref b] s) (F0 m 18 ls [])) (x3 : Int32) (I : MI) (J : MJ) (H : Heap) (locs : List Loc) (ls : Array Slot) (hP : va_P D vwCl (wl bs y I J) H) (hS : va_S (FA bs) s.heap H locs) (hl : lv_has ls 4 [(0, .ref b), (1, .ref (bs + 0)), (2, .ref (bs + 44)), (3, .int x3)]) (h : fL_law_1180 n L xs k18_ x3 I J = some r) : W p l e room_1 s m #[Value.ref b] below meth c H locs 76 8771 (lw_Z below #[Value.ref b] s) (F0 m 1180 ls []) := by
  obtain ⟨hx, hb, hml, hown, hts, hK, hN, hL, hr, hlocks, hcb, hX, hbl, hbs⟩ := id Gc
  have hbA : ¬ FA bs b := by rw [hbs]; exact Nat.not_le.mpr hbl
  unfold fL_law_1180 at h
  refine lv_aload_n hx hb dL_law_1180 rfl (lv_at hl 1 rfl) ?_
  refine lv_aload_n hx hb dL_law_1181 rfl (lv_at hl 0 rfl) ?_
  refine lv_iload_n hx hb dL_law_1182 rfl (lv_at hl 3 rfl) ?_
  refine lv_iconst (v := (1 : Int32)) hx hb dL_law_1183 (by decide) ?_
  refine lv_iadd hx hb dL_law_1184 ?_
  obtain ⟨hi1185, h⟩ := if_s1 h
  refine va_sld hx hb hX hbl hbA hS (inb_in hi1185) dL_law_1185 ?_
  refine lv_aload_n hx hb dL_law_1186 rfl (lv_at hl 0 rfl) ?_
  refine lv_iload_n hx hb dL_law_1187 rfl (lv_at hl 3 rfl) ?_
  refine lv_iconst (v := (2 : Int32)) hx hb dL_law_1188 (by decide) ?_
  refine lv_iadd hx hb dL_law_1189 ?_
  obtain ⟨hi1190, h⟩ := if_s1 h
  refine va_sld hx hb hX hbl hbA hS (inb_in hi1190) dL_law_1190 ?_
  refine lv_aload_n hx hb dL_law_1191 rfl (lv_at hl 0 rfl) ?_
  refine lv_iload_n hx hb dL_law_1192 rfl (lv_at hl 3 rfl) ?_
  refine lv_iconst (v := (3 : Int32)) hx hb dL_law_1193 (by decide) ?_
  refine lv_iadd hx hb dL_law_1194 ?_
  obtain ⟨hi1195, h⟩ := if_s1 h
  refine va_sld hx hb hX hbl hbA hS (inb_in hi1195) dL_law_1195 ?_
  obtain ⟨r1196, er1196, h⟩ := bd_s1 h
  refine c_VI (k := 0) (ci := 9) (As := [.int (xs ((x3 + (1 : Int32))).toNatClampNeg), .int (xs ((x3 + (2 : Int32))).toNatClampNeg), .int (xs ((x3 + (3 : Int32))).toNatClampNeg)]) (rest := []) hx hb hml hown hts hK hN hL hP hS (cX9_copy_ l bs D y (Nat.le_trans (by decide) hcb) n (xs ((x3 + (1 : Int32))).toNatClampNeg) (xs ((x3 + (2 : Int32))).toNatClampNeg) (xs ((x3 + (3 : Int32))).toNatClampNeg) I J r1196 er1196) ok_X9_copy ov_X9_copy ml_170 ⟨Nat.le_of_ble_eq_true rfl, Nat.le_of_ble_eq_true rfl⟩ rfl hcb kd_0_76 hl.1 rfl rfl (Nat.le_of_ble_eq_true rfl) ⟨Nat.le_of_ble_eq_true rfl, Nat.le_of_ble_eq_true rfl⟩ dL_law_1196 (fun H locs hP hS => ?_)
  refine lv_aload_n hx hb dL_law_1199 rfl (lv_at hl 2 rfl) ?_
  refine lv_aload_n hx hb dL_law_1200 rfl (lv_at hl 0 rfl) ?_
  refine lv_iload_n hx hb dL_law_1201 rfl (lv_at hl 3 rfl) ?_
  refine lv_iconst (v := (1 : Int32)) hx hb dL_law_1202 (by decide) ?_
  refine lv_iadd hx hb dL_law_1203 ?_
  obtain ⟨hi1204, h⟩ := if_s1 h
  refine va_sld hx hb hX hbl hbA hS (inb_in hi1204) dL_law_1204 ?_
  refine lv_aload_n hx hb dL_law_1205 rfl (lv_at hl 0 rfl) ?_
  refine lv_iload_n hx hb dL_law_1206 rfl (lv_at hl 3 rfl) ?_
  refine lv_iconst (v := (2 : Int32)) hx hb dL_law_1207 (by decide) ?_
  refine lv_iadd hx hb dL_law_1208 ?_
  obtain ⟨hi1209, h⟩ := if_s1 h
  refine va_sld hx hb hX hbl hbA hS (inb_in hi1209) dL_law_1209 ?_
  refine lv_aload_n hx hb dL_law_1210 rfl (lv_at hl 0 rfl) ?_
  refine lv_iload_n hx hb dL_law_1211 rfl (lv_at hl 3 rfl) ?_
  refine lv_iconst (v := (3 : Int32)) hx hb dL_law_1212 (by decide) ?_
  refine lv_iadd hx hb dL_law_1213 ?_
  obtain ⟨hi1214, h⟩ := if_s1 h
  refine va_sld hx hb hX hbl hbA hS (inb_in hi1214) dL_law_1214 ?_
  obtain ⟨r1215, er1215, h⟩ := bd_s1 h
  refine c_VI (k := 44) (ci := 10) (As := [.int (xs ((x3 + (1 : Int32))).toNatClampNeg), .int (xs ((x3 + (2 : Int32))).toNatClampNeg), .int (xs ((x3 + (3 : Int32))).toNatClampNeg)]) (rest := [.int r1196.1]) hx hb hml hown hts hK hN hL hP hS (cX10_copy_ l bs D y hcb n (xs ((x3 + (1 : Int32))).toNatClampNeg) (xs ((x3 + (2 : Int32))).toNatClampNeg) (xs ((x3 + (3 : Int32))).toNatClampNeg) r1196.2.1 r1196.2.2 r1215 er1215) ok_X10_copy ov_X10_copy ml_171 ⟨Nat.le_of_ble_eq_true rfl, Nat.le_of_ble_eq_true rfl⟩ rfl hcb kd_44_76 hl.1 rfl rfl (Nat.le_of_ble_eq_true rfl) ⟨Nat.le_of_ble_eq_true rfl, Nat.le_of_ble_eq_true rfl⟩ dL_law_1215 (fun H locs hP hS => ?_)
  refine lv_icmp_eq (tgt := 1246) hx hb dL_law_1218 (by decide) (fun c1218 => ?_) (fun c1218 => ?_)
  · replace h := if_t c1218 h
    exact wL_law_1246 bs D y n L xs k18_ r Gc hk18_ x3 r1215.2.1 r1215.2.2 _ _ _ hP hS (lv_sub hl [0, 1, 2, 3] rfl) h
  · replace h := if_f c1218 h
    refine lv_iconst (v := (0 : Int32)) hx hb dL_law_1221 (by decide) ?_
    cases h
set_option maxHeartbeats 4000000 in
set_option maxRecDepth 100000 in
theorem wL_law_1157 {p : Program} {l : Launch} {e : Env} {s : State} {m : MethodId} {b : Nat} {below : List Frame} {meth : Method} {c : Code} (bs : Nat) (D : va_G) (y : Y3) (n : Nat) (L : Nat) (xs : Nat → Int32) (k18_ : Int32 → MI → MJ → Option (Unit)) (r : Unit) (Gc : GL p s m meth c b L xs bs D y) (hk18_ : ∀ (x3 : Int32) (I : MI) (J : MJ) (H : Heap) (locs : List Loc) (ls : Array Slot), va_P D vwCl (wl bs y I J) H → va_S (FA bs) s.heap H locs → lv_has ls 4 [(0, .ref b), (1, .ref (bs + 0)), (2, .ref (bs + 44)), (3, .int x3)] → k18_ x3 I J = some r → W p l e room_1 s m #[Value.ref b] below meth c H locs 76 8771 (lw_Z below #[Value.ref b] s) (F0 m 18 ls [])) (x3 : Int32) (I : MI) (J : MJ) (H : Heap) (locs : List Loc) (ls : Array Slot) (hP : va_P D vwCl (wl bs y I J) H) (hS : va_S (FA bs) s.heap H locs) (hl : lv_has ls 4 [(0, .ref b), (1, .ref (bs + 0)), (2, .ref (bs + 44)), (3, .int x3)]) (h : fL_law_1157 n L xs k18_ x3 I J = some r) : W p l e room_1 s m #[Value.ref b] below meth c H locs 76 8771 (lw_Z below #[Value.ref b] s) (F0 m 1157 ls []) := by
  obtain ⟨hx, hb, hml, hown, hts, hK, hN, hL, hr, hlocks, hcb, hX, hbl, hbs⟩ := id Gc
  have hbA : ¬ FA bs b := by rw [hbs]; exact Nat.not_le.mpr hbl
  unfold fL_law_1157 at h
  refine lv_aload_n hx hb dL_law_1157 rfl (lv_at hl 1 rfl) ?_
  refine lv_aload_n hx hb dL_law_1158 rfl (lv_at hl 0 rfl) ?_
  refine lv_iload_n hx hb dL_law_1159 rfl (lv_at hl 3 rfl) ?_
  refine lv_iconst (v := (1 : Int32)) hx hb dL_law_1160 (by decide) ?_
  refine lv_iadd hx hb dL_law_1161 ?_
  obtain ⟨hi1162, h⟩ := if_s1 h
  refine va_sld hx hb hX hbl hbA hS (inb_in hi1162) dL_law_1162 ?_
  obtain ⟨r1163, er1163, h⟩ := bd_s1 h
  refine c_VI (k := 0) (ci := 9) (As := [.int (xs ((x3 + (1 : Int32))).toNatClampNeg)]) (rest := []) hx hb hml hown hts hK hN hL hP hS (cX9_row_ l bs D y (Nat.le_trans (by decide) hcb) n (xs ((x3 + (1 : Int32))).toNatClampNeg) I J r1163 er1163) ok_X9_row ov_X9_row ml_172 ⟨Nat.le_of_ble_eq_true rfl, Nat.le_of_ble_eq_true rfl⟩ rfl hcb kd_0_76 hl.1 rfl rfl (Nat.le_of_ble_eq_true rfl) ⟨Nat.le_of_ble_eq_true rfl, Nat.le_of_ble_eq_true rfl⟩ dL_law_1163 (fun H locs hP hS => ?_)
  refine lv_aload_n hx hb dL_law_1166 rfl (lv_at hl 2 rfl) ?_
  refine lv_aload_n hx hb dL_law_1167 rfl (lv_at hl 0 rfl) ?_
  refine lv_iload_n hx hb dL_law_1168 rfl (lv_at hl 3 rfl) ?_
  refine lv_iconst (v := (1 : Int32)) hx hb dL_law_1169 (by decide) ?_
  refine lv_iadd hx hb dL_law_1170 ?_
  obtain ⟨hi1171, h⟩ := if_s1 h
  refine va_sld hx hb hX hbl hbA hS (inb_in hi1171) dL_law_1171 ?_
  obtain ⟨r1172, er1172, h⟩ := bd_s1 h
  refine c_VI (k := 44) (ci := 10) (As := [.int (xs ((x3 + (1 : Int32))).toNatClampNeg)]) (rest := [.int r1163.1]) hx hb hml hown hts hK hN hL hP hS (cX10_row_ l bs D y hcb n (xs ((x3 + (1 : Int32))).toNatClampNeg) r1163.2.1 r1163.2.2 r1172 er1172) ok_X10_row ov_X10_row ml_173 ⟨Nat.le_of_ble_eq_true rfl, Nat.le_of_ble_eq_true rfl⟩ rfl hcb kd_44_76 hl.1 rfl rfl (Nat.le_of_ble_eq_true rfl) ⟨Nat.le_of_ble_eq_true rfl, Nat.le_of_ble_eq_true rfl⟩ dL_law_1172 (fun H locs hP hS => ?_)
  refine lv_icmp_eq (tgt := 1246) hx hb dL_law_1175 (by decide) (fun c1175 => ?_) (fun c1175 => ?_)
  · replace h := if_t c1175 h
    exact wL_law_1246 bs D y n L xs k18_ r Gc hk18_ x3 r1172.2.1 r1172.2.2 _ _ _ hP hS (lv_sub hl [0, 1, 2, 3] rfl) h
  · replace h := if_f c1175 h
    refine lv_iconst (v := (0 : Int32)) hx hb dL_law_1178 (by decide) ?_
    cases h
set_option maxHeartbeats 4000000 in
set_option maxRecDepth 100000 in
theorem wL_law_1144 {p : Program} {l : Launch} {e : Env} {s : State} {m : MethodId} {b : Nat} {below : List Frame} {meth : Method} {c : Code} (bs : Nat) (D : va_G) (y : Y3) (n : Nat) (L : Nat) (xs : Nat → Int32) (k18_ : Int32 → MI → MJ → Option (Unit)) (r : Unit) (Gc : GL p s m meth c b L xs bs D y) (hk18_ : ∀ (x3 : Int32) (I : MI) (J : MJ) (H : Heap) (locs : List Loc) (ls : Array Slot), va_P D vwCl (wl bs y I J) H → va_S (FA bs) s.heap H locs → lv_has ls 4 [(0, .ref b), (1, .ref (bs + 0)), (2, .ref (bs + 44)), (3, .int x3)] → k18_ x3 I J = some r → W p l e room_1 s m #[Value.ref b] below meth c H locs 76 8771 (lw_Z below #[Value.ref b] s) (F0 m 18 ls [])) (x3 : Int32) (I : MI) (J : MJ) (H : Heap) (locs : List Loc) (ls : Array Slot) (hP : va_P D vwCl (wl bs y I J) H) (hS : va_S (FA bs) s.heap H locs) (hl : lv_has ls 4 [(0, .ref b), (1, .ref (bs + 0)), (2, .ref (bs + 44)), (3, .int x3)]) (h : fL_law_1144 n L xs k18_ x3 I J = some r) : W p l e room_1 s m #[Value.ref b] below meth c H locs 76 8771 (lw_Z below #[Value.ref b] s) (F0 m 1144 ls []) := by
  obtain ⟨hx, hb, hml, hown, hts, hK, hN, hL, hr, hlocks, hcb, hX, hbl, hbs⟩ := id Gc
  have hbA : ¬ FA bs b := by rw [hbs]; exact Nat.not_le.mpr hbl
  unfold fL_law_1144 at h
  refine lv_aload_n hx hb dL_law_1144 rfl (lv_at hl 1 rfl) ?_
  obtain ⟨r1145, er1145, h⟩ := bd_s1 h
  refine c_VI (k := 0) (ci := 9) (As := []) (rest := []) hx hb hml hown hts hK hN hL hP hS (cX9_tear_ l bs D y (Nat.le_trans (by decide) hcb) n  I J r1145 er1145) ok_X9_tear ov_X9_tear ml_174 ⟨Nat.le_of_ble_eq_true rfl, Nat.le_of_ble_eq_true rfl⟩ rfl hcb kd_0_76 hl.1 rfl rfl (Nat.le_of_ble_eq_true rfl) ⟨Nat.le_of_ble_eq_true rfl, Nat.le_of_ble_eq_true rfl⟩ dL_law_1145 (fun H locs hP hS => ?_)
  refine lv_aload_n hx hb dL_law_1148 rfl (lv_at hl 2 rfl) ?_
  obtain ⟨r1149, er1149, h⟩ := bd_s1 h
  refine c_VI (k := 44) (ci := 10) (As := []) (rest := [.int r1145.1]) hx hb hml hown hts hK hN hL hP hS (cX10_tear_ l bs D y hcb n  r1145.2.1 r1145.2.2 r1149 er1149) ok_X10_tear ov_X10_tear ml_175 ⟨Nat.le_of_ble_eq_true rfl, Nat.le_of_ble_eq_true rfl⟩ rfl hcb kd_44_76 hl.1 rfl rfl (Nat.le_of_ble_eq_true rfl) ⟨Nat.le_of_ble_eq_true rfl, Nat.le_of_ble_eq_true rfl⟩ dL_law_1149 (fun H locs hP hS => ?_)
  refine lv_icmp_eq (tgt := 1246) hx hb dL_law_1152 (by decide) (fun c1152 => ?_) (fun c1152 => ?_)
  · replace h := if_t c1152 h
    exact wL_law_1246 bs D y n L xs k18_ r Gc hk18_ x3 r1149.2.1 r1149.2.2 _ _ _ hP hS (lv_sub hl [0, 1, 2, 3] rfl) h
  · replace h := if_f c1152 h
    refine lv_iconst (v := (0 : Int32)) hx hb dL_law_1155 (by decide) ?_
    cases h
set_option maxHeartbeats 4000000 in
set_option maxRecDepth 100000 in
theorem wL_law_1121 {p : Program} {l : Launch} {e : Env} {s : State} {m : MethodId} {b : Nat} {below : List Frame} {meth : Method} {c : Code} (bs : Nat) (D : va_G) (y : Y3) (n : Nat) (L : Nat) (xs : Nat → Int32) (k18_ : Int32 → MI → MJ → Option (Unit)) (r : Unit) (Gc : GL p s m meth c b L xs bs D y) (hk18_ : ∀ (x3 : Int32) (I : MI) (J : MJ) (H : Heap) (locs : List Loc) (ls : Array Slot), va_P D vwCl (wl bs y I J) H → va_S (FA bs) s.heap H locs → lv_has ls 4 [(0, .ref b), (1, .ref (bs + 0)), (2, .ref (bs + 44)), (3, .int x3)] → k18_ x3 I J = some r → W p l e room_1 s m #[Value.ref b] below meth c H locs 76 8771 (lw_Z below #[Value.ref b] s) (F0 m 18 ls [])) (x3 : Int32) (I : MI) (J : MJ) (H : Heap) (locs : List Loc) (ls : Array Slot) (hP : va_P D vwCl (wl bs y I J) H) (hS : va_S (FA bs) s.heap H locs) (hl : lv_has ls 4 [(0, .ref b), (1, .ref (bs + 0)), (2, .ref (bs + 44)), (3, .int x3)]) (h : fL_law_1121 n L xs k18_ x3 I J = some r) : W p l e room_1 s m #[Value.ref b] below meth c H locs 76 8771 (lw_Z below #[Value.ref b] s) (F0 m 1121 ls []) := by
  obtain ⟨hx, hb, hml, hown, hts, hK, hN, hL, hr, hlocks, hcb, hX, hbl, hbs⟩ := id Gc
  have hbA : ¬ FA bs b := by rw [hbs]; exact Nat.not_le.mpr hbl
  unfold fL_law_1121 at h
  refine lv_aload_n hx hb dL_law_1121 rfl (lv_at hl 1 rfl) ?_
  refine lv_aload_n hx hb dL_law_1122 rfl (lv_at hl 0 rfl) ?_
  refine lv_iload_n hx hb dL_law_1123 rfl (lv_at hl 3 rfl) ?_
  refine lv_iconst (v := (1 : Int32)) hx hb dL_law_1124 (by decide) ?_
  refine lv_iadd hx hb dL_law_1125 ?_
  obtain ⟨hi1126, h⟩ := if_s1 h
  refine va_sld hx hb hX hbl hbA hS (inb_in hi1126) dL_law_1126 ?_
  obtain ⟨r1127, er1127, h⟩ := bd_s1 h
  refine c_VI (k := 0) (ci := 9) (As := [.int (xs ((x3 + (1 : Int32))).toNatClampNeg)]) (rest := []) hx hb hml hown hts hK hN hL hP hS (cX9_lay_ l bs D y (Nat.le_trans (by decide) hcb) n (xs ((x3 + (1 : Int32))).toNatClampNeg) I J r1127 er1127) ok_X9_lay ov_X9_lay ml_176 ⟨Nat.le_of_ble_eq_true rfl, Nat.le_of_ble_eq_true rfl⟩ rfl hcb kd_0_76 hl.1 rfl rfl (Nat.le_of_ble_eq_true rfl) ⟨Nat.le_of_ble_eq_true rfl, Nat.le_of_ble_eq_true rfl⟩ dL_law_1127 (fun H locs hP hS => ?_)
  refine lv_aload_n hx hb dL_law_1130 rfl (lv_at hl 2 rfl) ?_
  refine lv_aload_n hx hb dL_law_1131 rfl (lv_at hl 0 rfl) ?_
  refine lv_iload_n hx hb dL_law_1132 rfl (lv_at hl 3 rfl) ?_
  refine lv_iconst (v := (1 : Int32)) hx hb dL_law_1133 (by decide) ?_
  refine lv_iadd hx hb dL_law_1134 ?_
  obtain ⟨hi1135, h⟩ := if_s1 h
  refine va_sld hx hb hX hbl hbA hS (inb_in hi1135) dL_law_1135 ?_
  obtain ⟨r1136, er1136, h⟩ := bd_s1 h
  refine c_VI (k := 44) (ci := 10) (As := [.int (xs ((x3 + (1 : Int32))).toNatClampNeg)]) (rest := [.int r1127.1]) hx hb hml hown hts hK hN hL hP hS (cX10_lay_ l bs D y hcb n (xs ((x3 + (1 : Int32))).toNatClampNeg) r1127.2.1 r1127.2.2 r1136 er1136) ok_X10_lay ov_X10_lay ml_177 ⟨Nat.le_of_ble_eq_true rfl, Nat.le_of_ble_eq_true rfl⟩ rfl hcb kd_44_76 hl.1 rfl rfl (Nat.le_of_ble_eq_true rfl) ⟨Nat.le_of_ble_eq_true rfl, Nat.le_of_ble_eq_true rfl⟩ dL_law_1136 (fun H locs hP hS => ?_)
  refine lv_icmp_eq (tgt := 1246) hx hb dL_law_1139 (by decide) (fun c1139 => ?_) (fun c1139 => ?_)
  · replace h := if_t c1139 h
    exact wL_law_1246 bs D y n L xs k18_ r Gc hk18_ x3 r1136.2.1 r1136.2.2 _ _ _ hP hS (lv_sub hl [0, 1, 2, 3] rfl) h
  · replace h := if_f c1139 h
    refine lv_iconst (v := (0 : Int32)) hx hb dL_law_1142 (by decide) ?_
    cases h
set_option maxHeartbeats 4000000 in
set_option maxRecDepth 100000 in
theorem wL_law_1098 {p : Program} {l : Launch} {e : Env} {s : State} {m : MethodId} {b : Nat} {below : List Frame} {meth : Method} {c : Code} (bs : Nat) (D : va_G) (y : Y3) (n : Nat) (L : Nat) (xs : Nat → Int32) (k18_ : Int32 → MI → MJ → Option (Unit)) (r : Unit) (Gc : GL p s m meth c b L xs bs D y) (hk18_ : ∀ (x3 : Int32) (I : MI) (J : MJ) (H : Heap) (locs : List Loc) (ls : Array Slot), va_P D vwCl (wl bs y I J) H → va_S (FA bs) s.heap H locs → lv_has ls 4 [(0, .ref b), (1, .ref (bs + 0)), (2, .ref (bs + 44)), (3, .int x3)] → k18_ x3 I J = some r → W p l e room_1 s m #[Value.ref b] below meth c H locs 76 8771 (lw_Z below #[Value.ref b] s) (F0 m 18 ls [])) (x3 : Int32) (I : MI) (J : MJ) (H : Heap) (locs : List Loc) (ls : Array Slot) (hP : va_P D vwCl (wl bs y I J) H) (hS : va_S (FA bs) s.heap H locs) (hl : lv_has ls 4 [(0, .ref b), (1, .ref (bs + 0)), (2, .ref (bs + 44)), (3, .int x3)]) (h : fL_law_1098 n L xs k18_ x3 I J = some r) : W p l e room_1 s m #[Value.ref b] below meth c H locs 76 8771 (lw_Z below #[Value.ref b] s) (F0 m 1098 ls []) := by
  obtain ⟨hx, hb, hml, hown, hts, hK, hN, hL, hr, hlocks, hcb, hX, hbl, hbs⟩ := id Gc
  have hbA : ¬ FA bs b := by rw [hbs]; exact Nat.not_le.mpr hbl
  unfold fL_law_1098 at h
  refine lv_aload_n hx hb dL_law_1098 rfl (lv_at hl 1 rfl) ?_
  refine lv_aload_n hx hb dL_law_1099 rfl (lv_at hl 0 rfl) ?_
  refine lv_iload_n hx hb dL_law_1100 rfl (lv_at hl 3 rfl) ?_
  refine lv_iconst (v := (1 : Int32)) hx hb dL_law_1101 (by decide) ?_
  refine lv_iadd hx hb dL_law_1102 ?_
  obtain ⟨hi1103, h⟩ := if_s1 h
  refine va_sld hx hb hX hbl hbA hS (inb_in hi1103) dL_law_1103 ?_
  obtain ⟨r1104, er1104, h⟩ := bd_s1 h
  refine c_VI (k := 0) (ci := 9) (As := [.int (xs ((x3 + (1 : Int32))).toNatClampNeg)]) (rest := []) hx hb hml hown hts hK hN hL hP hS (cX9_told_ l bs D y (Nat.le_trans (by decide) hcb) n (xs ((x3 + (1 : Int32))).toNatClampNeg) I J r1104 er1104) ok_X9_told ov_X9_told ml_178 ⟨Nat.le_of_ble_eq_true rfl, Nat.le_of_ble_eq_true rfl⟩ rfl hcb kd_0_76 hl.1 rfl rfl (Nat.le_of_ble_eq_true rfl) ⟨Nat.le_of_ble_eq_true rfl, Nat.le_of_ble_eq_true rfl⟩ dL_law_1104 (fun H locs hP hS => ?_)
  refine lv_aload_n hx hb dL_law_1107 rfl (lv_at hl 2 rfl) ?_
  refine lv_aload_n hx hb dL_law_1108 rfl (lv_at hl 0 rfl) ?_
  refine lv_iload_n hx hb dL_law_1109 rfl (lv_at hl 3 rfl) ?_
  refine lv_iconst (v := (1 : Int32)) hx hb dL_law_1110 (by decide) ?_
  refine lv_iadd hx hb dL_law_1111 ?_
  obtain ⟨hi1112, h⟩ := if_s1 h
  refine va_sld hx hb hX hbl hbA hS (inb_in hi1112) dL_law_1112 ?_
  obtain ⟨r1113, er1113, h⟩ := bd_s1 h
  refine c_VI (k := 44) (ci := 10) (As := [.int (xs ((x3 + (1 : Int32))).toNatClampNeg)]) (rest := [.int r1104.1]) hx hb hml hown hts hK hN hL hP hS (cX10_told_ l bs D y hcb n (xs ((x3 + (1 : Int32))).toNatClampNeg) r1104.2.1 r1104.2.2 r1113 er1113) ok_X10_told ov_X10_told ml_179 ⟨Nat.le_of_ble_eq_true rfl, Nat.le_of_ble_eq_true rfl⟩ rfl hcb kd_44_76 hl.1 rfl rfl (Nat.le_of_ble_eq_true rfl) ⟨Nat.le_of_ble_eq_true rfl, Nat.le_of_ble_eq_true rfl⟩ dL_law_1113 (fun H locs hP hS => ?_)
  refine lv_icmp_eq (tgt := 1246) hx hb dL_law_1116 (by decide) (fun c1116 => ?_) (fun c1116 => ?_)
  · replace h := if_t c1116 h
    exact wL_law_1246 bs D y n L xs k18_ r Gc hk18_ x3 r1113.2.1 r1113.2.2 _ _ _ hP hS (lv_sub hl [0, 1, 2, 3] rfl) h
  · replace h := if_f c1116 h
    refine lv_iconst (v := (0 : Int32)) hx hb dL_law_1119 (by decide) ?_
    cases h
set_option maxHeartbeats 4000000 in
set_option maxRecDepth 100000 in
theorem wL_law_1075 {p : Program} {l : Launch} {e : Env} {s : State} {m : MethodId} {b : Nat} {below : List Frame} {meth : Method} {c : Code} (bs : Nat) (D : va_G) (y : Y3) (n : Nat) (L : Nat) (xs : Nat → Int32) (k18_ : Int32 → MI → MJ → Option (Unit)) (r : Unit) (Gc : GL p s m meth c b L xs bs D y) (hk18_ : ∀ (x3 : Int32) (I : MI) (J : MJ) (H : Heap) (locs : List Loc) (ls : Array Slot), va_P D vwCl (wl bs y I J) H → va_S (FA bs) s.heap H locs → lv_has ls 4 [(0, .ref b), (1, .ref (bs + 0)), (2, .ref (bs + 44)), (3, .int x3)] → k18_ x3 I J = some r → W p l e room_1 s m #[Value.ref b] below meth c H locs 76 8771 (lw_Z below #[Value.ref b] s) (F0 m 18 ls [])) (x3 : Int32) (I : MI) (J : MJ) (H : Heap) (locs : List Loc) (ls : Array Slot) (hP : va_P D vwCl (wl bs y I J) H) (hS : va_S (FA bs) s.heap H locs) (hl : lv_has ls 4 [(0, .ref b), (1, .ref (bs + 0)), (2, .ref (bs + 44)), (3, .int x3)]) (h : fL_law_1075 n L xs k18_ x3 I J = some r) : W p l e room_1 s m #[Value.ref b] below meth c H locs 76 8771 (lw_Z below #[Value.ref b] s) (F0 m 1075 ls []) := by
  obtain ⟨hx, hb, hml, hown, hts, hK, hN, hL, hr, hlocks, hcb, hX, hbl, hbs⟩ := id Gc
  have hbA : ¬ FA bs b := by rw [hbs]; exact Nat.not_le.mpr hbl
  unfold fL_law_1075 at h
  refine lv_aload_n hx hb dL_law_1075 rfl (lv_at hl 1 rfl) ?_
  refine lv_aload_n hx hb dL_law_1076 rfl (lv_at hl 0 rfl) ?_
  refine lv_iload_n hx hb dL_law_1077 rfl (lv_at hl 3 rfl) ?_
  refine lv_iconst (v := (1 : Int32)) hx hb dL_law_1078 (by decide) ?_
  refine lv_iadd hx hb dL_law_1079 ?_
  obtain ⟨hi1080, h⟩ := if_s1 h
  refine va_sld hx hb hX hbl hbA hS (inb_in hi1080) dL_law_1080 ?_
  obtain ⟨r1081, er1081, h⟩ := bd_s1 h
  refine c_VI (k := 0) (ci := 9) (As := [.int (xs ((x3 + (1 : Int32))).toNatClampNeg)]) (rest := []) hx hb hml hown hts hK hN hL hP hS (cX9_clock_ l bs D y (Nat.le_trans (by decide) hcb) n (xs ((x3 + (1 : Int32))).toNatClampNeg) I J r1081 er1081) ok_X9_clock ov_X9_clock ml_180 ⟨Nat.le_of_ble_eq_true rfl, Nat.le_of_ble_eq_true rfl⟩ rfl hcb kd_0_76 hl.1 rfl rfl (Nat.le_of_ble_eq_true rfl) ⟨Nat.le_of_ble_eq_true rfl, Nat.le_of_ble_eq_true rfl⟩ dL_law_1081 (fun H locs hP hS => ?_)
  refine lv_aload_n hx hb dL_law_1084 rfl (lv_at hl 2 rfl) ?_
  refine lv_aload_n hx hb dL_law_1085 rfl (lv_at hl 0 rfl) ?_
  refine lv_iload_n hx hb dL_law_1086 rfl (lv_at hl 3 rfl) ?_
  refine lv_iconst (v := (1 : Int32)) hx hb dL_law_1087 (by decide) ?_
  refine lv_iadd hx hb dL_law_1088 ?_
  obtain ⟨hi1089, h⟩ := if_s1 h
  refine va_sld hx hb hX hbl hbA hS (inb_in hi1089) dL_law_1089 ?_
  obtain ⟨r1090, er1090, h⟩ := bd_s1 h
  refine c_VI (k := 44) (ci := 10) (As := [.int (xs ((x3 + (1 : Int32))).toNatClampNeg)]) (rest := [.int r1081.1]) hx hb hml hown hts hK hN hL hP hS (cX10_clock_ l bs D y hcb n (xs ((x3 + (1 : Int32))).toNatClampNeg) r1081.2.1 r1081.2.2 r1090 er1090) ok_X10_clock ov_X10_clock ml_181 ⟨Nat.le_of_ble_eq_true rfl, Nat.le_of_ble_eq_true rfl⟩ rfl hcb kd_44_76 hl.1 rfl rfl (Nat.le_of_ble_eq_true rfl) ⟨Nat.le_of_ble_eq_true rfl, Nat.le_of_ble_eq_true rfl⟩ dL_law_1090 (fun H locs hP hS => ?_)
  refine lv_icmp_eq (tgt := 1246) hx hb dL_law_1093 (by decide) (fun c1093 => ?_) (fun c1093 => ?_)
  · replace h := if_t c1093 h
    exact wL_law_1246 bs D y n L xs k18_ r Gc hk18_ x3 r1090.2.1 r1090.2.2 _ _ _ hP hS (lv_sub hl [0, 1, 2, 3] rfl) h
  · replace h := if_f c1093 h
    refine lv_iconst (v := (0 : Int32)) hx hb dL_law_1096 (by decide) ?_
    cases h
set_option maxHeartbeats 4000000 in
set_option maxRecDepth 100000 in
theorem wL_law_1062 {p : Program} {l : Launch} {e : Env} {s : State} {m : MethodId} {b : Nat} {below : List Frame} {meth : Method} {c : Code} (bs : Nat) (D : va_G) (y : Y3) (n : Nat) (L : Nat) (xs : Nat → Int32) (k18_ : Int32 → MI → MJ → Option (Unit)) (r : Unit) (Gc : GL p s m meth c b L xs bs D y) (hk18_ : ∀ (x3 : Int32) (I : MI) (J : MJ) (H : Heap) (locs : List Loc) (ls : Array Slot), va_P D vwCl (wl bs y I J) H → va_S (FA bs) s.heap H locs → lv_has ls 4 [(0, .ref b), (1, .ref (bs + 0)), (2, .ref (bs + 44)), (3, .int x3)] → k18_ x3 I J = some r → W p l e room_1 s m #[Value.ref b] below meth c H locs 76 8771 (lw_Z below #[Value.ref b] s) (F0 m 18 ls [])) (x3 : Int32) (I : MI) (J : MJ) (H : Heap) (locs : List Loc) (ls : Array Slot) (hP : va_P D vwCl (wl bs y I J) H) (hS : va_S (FA bs) s.heap H locs) (hl : lv_has ls 4 [(0, .ref b), (1, .ref (bs + 0)), (2, .ref (bs + 44)), (3, .int x3)]) (h : fL_law_1062 n L xs k18_ x3 I J = some r) : W p l e room_1 s m #[Value.ref b] below meth c H locs 76 8771 (lw_Z below #[Value.ref b] s) (F0 m 1062 ls []) := by
  obtain ⟨hx, hb, hml, hown, hts, hK, hN, hL, hr, hlocks, hcb, hX, hbl, hbs⟩ := id Gc
  have hbA : ¬ FA bs b := by rw [hbs]; exact Nat.not_le.mpr hbl
  unfold fL_law_1062 at h
  refine lv_aload_n hx hb dL_law_1062 rfl (lv_at hl 1 rfl) ?_
  obtain ⟨r1063, er1063, h⟩ := bd_s1 h
  refine c_VI (k := 0) (ci := 9) (As := []) (rest := []) hx hb hml hown hts hK hN hL hP hS (cX9_start_ l bs D y (Nat.le_trans (by decide) hcb) n  I J r1063 er1063) ok_X9_start ov_X9_start ml_182 ⟨Nat.le_of_ble_eq_true rfl, Nat.le_of_ble_eq_true rfl⟩ rfl hcb kd_0_76 hl.1 rfl rfl (Nat.le_of_ble_eq_true rfl) ⟨Nat.le_of_ble_eq_true rfl, Nat.le_of_ble_eq_true rfl⟩ dL_law_1063 (fun H locs hP hS => ?_)
  refine lv_aload_n hx hb dL_law_1066 rfl (lv_at hl 2 rfl) ?_
  obtain ⟨r1067, er1067, h⟩ := bd_s1 h
  refine c_VI (k := 44) (ci := 10) (As := []) (rest := [.int r1063.1]) hx hb hml hown hts hK hN hL hP hS (cX10_start_ l bs D y hcb n  r1063.2.1 r1063.2.2 r1067 er1067) ok_X10_start ov_X10_start ml_183 ⟨Nat.le_of_ble_eq_true rfl, Nat.le_of_ble_eq_true rfl⟩ rfl hcb kd_44_76 hl.1 rfl rfl (Nat.le_of_ble_eq_true rfl) ⟨Nat.le_of_ble_eq_true rfl, Nat.le_of_ble_eq_true rfl⟩ dL_law_1067 (fun H locs hP hS => ?_)
  refine lv_icmp_eq (tgt := 1246) hx hb dL_law_1070 (by decide) (fun c1070 => ?_) (fun c1070 => ?_)
  · replace h := if_t c1070 h
    exact wL_law_1246 bs D y n L xs k18_ r Gc hk18_ x3 r1067.2.1 r1067.2.2 _ _ _ hP hS (lv_sub hl [0, 1, 2, 3] rfl) h
  · replace h := if_f c1070 h
    refine lv_iconst (v := (0 : Int32)) hx hb dL_law_1073 (by decide) ?_
    cases h
set_option maxHeartbeats 4000000 in
set_option maxRecDepth 100000 in
theorem wL_law_1049 {p : Program} {l : Launch} {e : Env} {s : State} {m : MethodId} {b : Nat} {below : List Frame} {meth : Method} {c : Code} (bs : Nat) (D : va_G) (y : Y3) (n : Nat) (L : Nat) (xs : Nat → Int32) (k18_ : Int32 → MI → MJ → Option (Unit)) (r : Unit) (Gc : GL p s m meth c b L xs bs D y) (hk18_ : ∀ (x3 : Int32) (I : MI) (J : MJ) (H : Heap) (locs : List Loc) (ls : Array Slot), va_P D vwCl (wl bs y I J) H → va_S (FA bs) s.heap H locs → lv_has ls 4 [(0, .ref b), (1, .ref (bs + 0)), (2, .ref (bs + 44)), (3, .int x3)] → k18_ x3 I J = some r → W p l e room_1 s m #[Value.ref b] below meth c H locs 76 8771 (lw_Z below #[Value.ref b] s) (F0 m 18 ls [])) (x3 : Int32) (I : MI) (J : MJ) (H : Heap) (locs : List Loc) (ls : Array Slot) (hP : va_P D vwCl (wl bs y I J) H) (hS : va_S (FA bs) s.heap H locs) (hl : lv_has ls 4 [(0, .ref b), (1, .ref (bs + 0)), (2, .ref (bs + 44)), (3, .int x3)]) (h : fL_law_1049 n L xs k18_ x3 I J = some r) : W p l e room_1 s m #[Value.ref b] below meth c H locs 76 8771 (lw_Z below #[Value.ref b] s) (F0 m 1049 ls []) := by
  obtain ⟨hx, hb, hml, hown, hts, hK, hN, hL, hr, hlocks, hcb, hX, hbl, hbs⟩ := id Gc
  have hbA : ¬ FA bs b := by rw [hbs]; exact Nat.not_le.mpr hbl
  unfold fL_law_1049 at h
  refine lv_aload_n hx hb dL_law_1049 rfl (lv_at hl 1 rfl) ?_
  obtain ⟨r1050, er1050, h⟩ := bd_s1 h
  refine c_VI (k := 0) (ci := 9) (As := []) (rest := []) hx hb hml hown hts hK hN hL hP hS (cX9_back_ l bs D y (Nat.le_trans (by decide) hcb) n  I J r1050 er1050) ok_X9_back ov_X9_back ml_184 ⟨Nat.le_of_ble_eq_true rfl, Nat.le_of_ble_eq_true rfl⟩ rfl hcb kd_0_76 hl.1 rfl rfl (Nat.le_of_ble_eq_true rfl) ⟨Nat.le_of_ble_eq_true rfl, Nat.le_of_ble_eq_true rfl⟩ dL_law_1050 (fun H locs hP hS => ?_)
  refine lv_aload_n hx hb dL_law_1053 rfl (lv_at hl 2 rfl) ?_
  obtain ⟨r1054, er1054, h⟩ := bd_s1 h
  refine c_VI (k := 44) (ci := 10) (As := []) (rest := [.int r1050.1]) hx hb hml hown hts hK hN hL hP hS (cX10_back_ l bs D y hcb n  r1050.2.1 r1050.2.2 r1054 er1054) ok_X10_back ov_X10_back ml_185 ⟨Nat.le_of_ble_eq_true rfl, Nat.le_of_ble_eq_true rfl⟩ rfl hcb kd_44_76 hl.1 rfl rfl (Nat.le_of_ble_eq_true rfl) ⟨Nat.le_of_ble_eq_true rfl, Nat.le_of_ble_eq_true rfl⟩ dL_law_1054 (fun H locs hP hS => ?_)
  refine lv_icmp_eq (tgt := 1246) hx hb dL_law_1057 (by decide) (fun c1057 => ?_) (fun c1057 => ?_)
  · replace h := if_t c1057 h
    exact wL_law_1246 bs D y n L xs k18_ r Gc hk18_ x3 r1054.2.1 r1054.2.2 _ _ _ hP hS (lv_sub hl [0, 1, 2, 3] rfl) h
  · replace h := if_f c1057 h
    refine lv_iconst (v := (0 : Int32)) hx hb dL_law_1060 (by decide) ?_
    cases h
set_option maxHeartbeats 4000000 in
set_option maxRecDepth 100000 in
theorem wL_law_1036 {p : Program} {l : Launch} {e : Env} {s : State} {m : MethodId} {b : Nat} {below : List Frame} {meth : Method} {c : Code} (bs : Nat) (D : va_G) (y : Y3) (n : Nat) (L : Nat) (xs : Nat → Int32) (k18_ : Int32 → MI → MJ → Option (Unit)) (r : Unit) (Gc : GL p s m meth c b L xs bs D y) (hk18_ : ∀ (x3 : Int32) (I : MI) (J : MJ) (H : Heap) (locs : List Loc) (ls : Array Slot), va_P D vwCl (wl bs y I J) H → va_S (FA bs) s.heap H locs → lv_has ls 4 [(0, .ref b), (1, .ref (bs + 0)), (2, .ref (bs + 44)), (3, .int x3)] → k18_ x3 I J = some r → W p l e room_1 s m #[Value.ref b] below meth c H locs 76 8771 (lw_Z below #[Value.ref b] s) (F0 m 18 ls [])) (x3 : Int32) (I : MI) (J : MJ) (H : Heap) (locs : List Loc) (ls : Array Slot) (hP : va_P D vwCl (wl bs y I J) H) (hS : va_S (FA bs) s.heap H locs) (hl : lv_has ls 4 [(0, .ref b), (1, .ref (bs + 0)), (2, .ref (bs + 44)), (3, .int x3)]) (h : fL_law_1036 n L xs k18_ x3 I J = some r) : W p l e room_1 s m #[Value.ref b] below meth c H locs 76 8771 (lw_Z below #[Value.ref b] s) (F0 m 1036 ls []) := by
  obtain ⟨hx, hb, hml, hown, hts, hK, hN, hL, hr, hlocks, hcb, hX, hbl, hbs⟩ := id Gc
  have hbA : ¬ FA bs b := by rw [hbs]; exact Nat.not_le.mpr hbl
  unfold fL_law_1036 at h
  refine lv_aload_n hx hb dL_law_1036 rfl (lv_at hl 1 rfl) ?_
  obtain ⟨r1037, er1037, h⟩ := bd_s1 h
  refine c_VI (k := 0) (ci := 9) (As := []) (rest := []) hx hb hml hown hts hK hN hL hP hS (cX9_check_ l bs D y (Nat.le_trans (by decide) hcb) n  I J r1037 er1037) ok_X9_check ov_X9_check ml_186 ⟨Nat.le_of_ble_eq_true rfl, Nat.le_of_ble_eq_true rfl⟩ rfl hcb kd_0_76 hl.1 rfl rfl (Nat.le_of_ble_eq_true rfl) ⟨Nat.le_of_ble_eq_true rfl, Nat.le_of_ble_eq_true rfl⟩ dL_law_1037 (fun H locs hP hS => ?_)
  refine lv_aload_n hx hb dL_law_1040 rfl (lv_at hl 2 rfl) ?_
  obtain ⟨r1041, er1041, h⟩ := bd_s1 h
  refine c_VI (k := 44) (ci := 10) (As := []) (rest := [.int r1037.1]) hx hb hml hown hts hK hN hL hP hS (cX10_check_ l bs D y hcb n  r1037.2.1 r1037.2.2 r1041 er1041) ok_X10_check ov_X10_check ml_187 ⟨Nat.le_of_ble_eq_true rfl, Nat.le_of_ble_eq_true rfl⟩ rfl hcb kd_44_76 hl.1 rfl rfl (Nat.le_of_ble_eq_true rfl) ⟨Nat.le_of_ble_eq_true rfl, Nat.le_of_ble_eq_true rfl⟩ dL_law_1041 (fun H locs hP hS => ?_)
  refine lv_icmp_eq (tgt := 1246) hx hb dL_law_1044 (by decide) (fun c1044 => ?_) (fun c1044 => ?_)
  · replace h := if_t c1044 h
    exact wL_law_1246 bs D y n L xs k18_ r Gc hk18_ x3 r1041.2.1 r1041.2.2 _ _ _ hP hS (lv_sub hl [0, 1, 2, 3] rfl) h
  · replace h := if_f c1044 h
    refine lv_iconst (v := (0 : Int32)) hx hb dL_law_1047 (by decide) ?_
    cases h
set_option maxHeartbeats 4000000 in
set_option maxRecDepth 100000 in
theorem wL_law_993 {p : Program} {l : Launch} {e : Env} {s : State} {m : MethodId} {b : Nat} {below : List Frame} {meth : Method} {c : Code} (bs : Nat) (D : va_G) (y : Y3) (n : Nat) (L : Nat) (xs : Nat → Int32) (k18_ : Int32 → MI → MJ → Option (Unit)) (r : Unit) (Gc : GL p s m meth c b L xs bs D y) (hk18_ : ∀ (x3 : Int32) (I : MI) (J : MJ) (H : Heap) (locs : List Loc) (ls : Array Slot), va_P D vwCl (wl bs y I J) H → va_S (FA bs) s.heap H locs → lv_has ls 4 [(0, .ref b), (1, .ref (bs + 0)), (2, .ref (bs + 44)), (3, .int x3)] → k18_ x3 I J = some r → W p l e room_1 s m #[Value.ref b] below meth c H locs 76 8771 (lw_Z below #[Value.ref b] s) (F0 m 18 ls [])) (x3 : Int32) (I : MI) (J : MJ) (H : Heap) (locs : List Loc) (ls : Array Slot) (hP : va_P D vwCl (wl bs y I J) H) (hS : va_S (FA bs) s.heap H locs) (hl : lv_has ls 4 [(0, .ref b), (1, .ref (bs + 0)), (2, .ref (bs + 44)), (3, .int x3)]) (h : fL_law_993 n L xs k18_ x3 I J = some r) : W p l e room_1 s m #[Value.ref b] below meth c H locs 76 8771 (lw_Z below #[Value.ref b] s) (F0 m 993 ls []) := by
  obtain ⟨hx, hb, hml, hown, hts, hK, hN, hL, hr, hlocks, hcb, hX, hbl, hbs⟩ := id Gc
  have hbA : ¬ FA bs b := by rw [hbs]; exact Nat.not_le.mpr hbl
  unfold fL_law_993 at h
  refine lv_aload_n hx hb dL_law_993 rfl (lv_at hl 1 rfl) ?_
  refine lv_aload_n hx hb dL_law_994 rfl (lv_at hl 0 rfl) ?_
  refine lv_iload_n hx hb dL_law_995 rfl (lv_at hl 3 rfl) ?_
  refine lv_iconst (v := (1 : Int32)) hx hb dL_law_996 (by decide) ?_
  refine lv_iadd hx hb dL_law_997 ?_
  obtain ⟨hi998, h⟩ := if_s1 h
  refine va_sld hx hb hX hbl hbA hS (inb_in hi998) dL_law_998 ?_
  refine lv_aload_n hx hb dL_law_999 rfl (lv_at hl 0 rfl) ?_
  refine lv_iload_n hx hb dL_law_1000 rfl (lv_at hl 3 rfl) ?_
  refine lv_iconst (v := (2 : Int32)) hx hb dL_law_1001 (by decide) ?_
  refine lv_iadd hx hb dL_law_1002 ?_
  obtain ⟨hi1003, h⟩ := if_s1 h
  refine va_sld hx hb hX hbl hbA hS (inb_in hi1003) dL_law_1003 ?_
  refine lv_aload_n hx hb dL_law_1004 rfl (lv_at hl 0 rfl) ?_
  refine lv_iload_n hx hb dL_law_1005 rfl (lv_at hl 3 rfl) ?_
  refine lv_iconst (v := (3 : Int32)) hx hb dL_law_1006 (by decide) ?_
  refine lv_iadd hx hb dL_law_1007 ?_
  obtain ⟨hi1008, h⟩ := if_s1 h
  refine va_sld hx hb hX hbl hbA hS (inb_in hi1008) dL_law_1008 ?_
  obtain ⟨r1009, er1009, h⟩ := bd_s1 h
  refine c_VI (k := 0) (ci := 9) (As := [.int (xs ((x3 + (1 : Int32))).toNatClampNeg), .int (xs ((x3 + (2 : Int32))).toNatClampNeg), .int (xs ((x3 + (3 : Int32))).toNatClampNeg)]) (rest := []) hx hb hml hown hts hK hN hL hP hS (cX9_bend_ l bs D y (Nat.le_trans (by decide) hcb) n (xs ((x3 + (1 : Int32))).toNatClampNeg) (xs ((x3 + (2 : Int32))).toNatClampNeg) (xs ((x3 + (3 : Int32))).toNatClampNeg) I J r1009 er1009) ok_X9_bend ov_X9_bend ml_188 ⟨Nat.le_of_ble_eq_true rfl, Nat.le_of_ble_eq_true rfl⟩ rfl hcb kd_0_76 hl.1 rfl rfl (Nat.le_of_ble_eq_true rfl) ⟨Nat.le_of_ble_eq_true rfl, Nat.le_of_ble_eq_true rfl⟩ dL_law_1009 (fun H locs hP hS => ?_)
  refine lv_aload_n hx hb dL_law_1012 rfl (lv_at hl 2 rfl) ?_
  refine lv_aload_n hx hb dL_law_1013 rfl (lv_at hl 0 rfl) ?_
  refine lv_iload_n hx hb dL_law_1014 rfl (lv_at hl 3 rfl) ?_
  refine lv_iconst (v := (1 : Int32)) hx hb dL_law_1015 (by decide) ?_
  refine lv_iadd hx hb dL_law_1016 ?_
  obtain ⟨hi1017, h⟩ := if_s1 h
  refine va_sld hx hb hX hbl hbA hS (inb_in hi1017) dL_law_1017 ?_
  refine lv_aload_n hx hb dL_law_1018 rfl (lv_at hl 0 rfl) ?_
  refine lv_iload_n hx hb dL_law_1019 rfl (lv_at hl 3 rfl) ?_
  refine lv_iconst (v := (2 : Int32)) hx hb dL_law_1020 (by decide) ?_
  refine lv_iadd hx hb dL_law_1021 ?_
  obtain ⟨hi1022, h⟩ := if_s1 h
  refine va_sld hx hb hX hbl hbA hS (inb_in hi1022) dL_law_1022 ?_
  refine lv_aload_n hx hb dL_law_1023 rfl (lv_at hl 0 rfl) ?_
  refine lv_iload_n hx hb dL_law_1024 rfl (lv_at hl 3 rfl) ?_
  refine lv_iconst (v := (3 : Int32)) hx hb dL_law_1025 (by decide) ?_
  refine lv_iadd hx hb dL_law_1026 ?_
  obtain ⟨hi1027, h⟩ := if_s1 h
  refine va_sld hx hb hX hbl hbA hS (inb_in hi1027) dL_law_1027 ?_
  obtain ⟨r1028, er1028, h⟩ := bd_s1 h
  refine c_VI (k := 44) (ci := 10) (As := [.int (xs ((x3 + (1 : Int32))).toNatClampNeg), .int (xs ((x3 + (2 : Int32))).toNatClampNeg), .int (xs ((x3 + (3 : Int32))).toNatClampNeg)]) (rest := [.int r1009.1]) hx hb hml hown hts hK hN hL hP hS (cX10_bend_ l bs D y hcb n (xs ((x3 + (1 : Int32))).toNatClampNeg) (xs ((x3 + (2 : Int32))).toNatClampNeg) (xs ((x3 + (3 : Int32))).toNatClampNeg) r1009.2.1 r1009.2.2 r1028 er1028) ok_X10_bend ov_X10_bend ml_189 ⟨Nat.le_of_ble_eq_true rfl, Nat.le_of_ble_eq_true rfl⟩ rfl hcb kd_44_76 hl.1 rfl rfl (Nat.le_of_ble_eq_true rfl) ⟨Nat.le_of_ble_eq_true rfl, Nat.le_of_ble_eq_true rfl⟩ dL_law_1028 (fun H locs hP hS => ?_)
  refine lv_icmp_eq (tgt := 1246) hx hb dL_law_1031 (by decide) (fun c1031 => ?_) (fun c1031 => ?_)
  · replace h := if_t c1031 h
    exact wL_law_1246 bs D y n L xs k18_ r Gc hk18_ x3 r1028.2.1 r1028.2.2 _ _ _ hP hS (lv_sub hl [0, 1, 2, 3] rfl) h
  · replace h := if_f c1031 h
    refine lv_iconst (v := (0 : Int32)) hx hb dL_law_1034 (by decide) ?_
    cases h
set_option maxHeartbeats 4000000 in
set_option maxRecDepth 100000 in
theorem wL_law_960 {p : Program} {l : Launch} {e : Env} {s : State} {m : MethodId} {b : Nat} {below : List Frame} {meth : Method} {c : Code} (bs : Nat) (D : va_G) (y : Y3) (n : Nat) (L : Nat) (xs : Nat → Int32) (k18_ : Int32 → MI → MJ → Option (Unit)) (r : Unit) (Gc : GL p s m meth c b L xs bs D y) (hk18_ : ∀ (x3 : Int32) (I : MI) (J : MJ) (H : Heap) (locs : List Loc) (ls : Array Slot), va_P D vwCl (wl bs y I J) H → va_S (FA bs) s.heap H locs → lv_has ls 4 [(0, .ref b), (1, .ref (bs + 0)), (2, .ref (bs + 44)), (3, .int x3)] → k18_ x3 I J = some r → W p l e room_1 s m #[Value.ref b] below meth c H locs 76 8771 (lw_Z below #[Value.ref b] s) (F0 m 18 ls [])) (x3 : Int32) (I : MI) (J : MJ) (H : Heap) (locs : List Loc) (ls : Array Slot) (hP : va_P D vwCl (wl bs y I J) H) (hS : va_S (FA bs) s.heap H locs) (hl : lv_has ls 4 [(0, .ref b), (1, .ref (bs + 0)), (2, .ref (bs + 44)), (3, .int x3)]) (h : fL_law_960 n L xs k18_ x3 I J = some r) : W p l e room_1 s m #[Value.ref b] below meth c H locs 76 8771 (lw_Z below #[Value.ref b] s) (F0 m 960 ls []) := by
  obtain ⟨hx, hb, hml, hown, hts, hK, hN, hL, hr, hlocks, hcb, hX, hbl, hbs⟩ := id Gc
  have hbA : ¬ FA bs b := by rw [hbs]; exact Nat.not_le.mpr hbl
  unfold fL_law_960 at h
  refine lv_aload_n hx hb dL_law_960 rfl (lv_at hl 1 rfl) ?_
  refine lv_aload_n hx hb dL_law_961 rfl (lv_at hl 0 rfl) ?_
  refine lv_iload_n hx hb dL_law_962 rfl (lv_at hl 3 rfl) ?_
  refine lv_iconst (v := (1 : Int32)) hx hb dL_law_963 (by decide) ?_
  refine lv_iadd hx hb dL_law_964 ?_
  obtain ⟨hi965, h⟩ := if_s1 h
  refine va_sld hx hb hX hbl hbA hS (inb_in hi965) dL_law_965 ?_
  refine lv_aload_n hx hb dL_law_966 rfl (lv_at hl 0 rfl) ?_
  refine lv_iload_n hx hb dL_law_967 rfl (lv_at hl 3 rfl) ?_
  refine lv_iconst (v := (2 : Int32)) hx hb dL_law_968 (by decide) ?_
  refine lv_iadd hx hb dL_law_969 ?_
  obtain ⟨hi970, h⟩ := if_s1 h
  refine va_sld hx hb hX hbl hbA hS (inb_in hi970) dL_law_970 ?_
  obtain ⟨r971, er971, h⟩ := bd_s1 h
  refine c_VI (k := 0) (ci := 9) (As := [.int (xs ((x3 + (1 : Int32))).toNatClampNeg), .int (xs ((x3 + (2 : Int32))).toNatClampNeg)]) (rest := []) hx hb hml hown hts hK hN hL hP hS (cX9_octet_ l bs D y (Nat.le_trans (by decide) hcb) n (xs ((x3 + (1 : Int32))).toNatClampNeg) (xs ((x3 + (2 : Int32))).toNatClampNeg) I J r971 er971) ok_X9_octet ov_X9_octet ml_190 ⟨Nat.le_of_ble_eq_true rfl, Nat.le_of_ble_eq_true rfl⟩ rfl hcb kd_0_76 hl.1 rfl rfl (Nat.le_of_ble_eq_true rfl) ⟨Nat.le_of_ble_eq_true rfl, Nat.le_of_ble_eq_true rfl⟩ dL_law_971 (fun H locs hP hS => ?_)
  refine lv_aload_n hx hb dL_law_974 rfl (lv_at hl 2 rfl) ?_
  refine lv_aload_n hx hb dL_law_975 rfl (lv_at hl 0 rfl) ?_
  refine lv_iload_n hx hb dL_law_976 rfl (lv_at hl 3 rfl) ?_
  refine lv_iconst (v := (1 : Int32)) hx hb dL_law_977 (by decide) ?_
  refine lv_iadd hx hb dL_law_978 ?_
  obtain ⟨hi979, h⟩ := if_s1 h
  refine va_sld hx hb hX hbl hbA hS (inb_in hi979) dL_law_979 ?_
  refine lv_aload_n hx hb dL_law_980 rfl (lv_at hl 0 rfl) ?_
  refine lv_iload_n hx hb dL_law_981 rfl (lv_at hl 3 rfl) ?_
  refine lv_iconst (v := (2 : Int32)) hx hb dL_law_982 (by decide) ?_
  refine lv_iadd hx hb dL_law_983 ?_
  obtain ⟨hi984, h⟩ := if_s1 h
  refine va_sld hx hb hX hbl hbA hS (inb_in hi984) dL_law_984 ?_
  obtain ⟨r985, er985, h⟩ := bd_s1 h
  refine c_VI (k := 44) (ci := 10) (As := [.int (xs ((x3 + (1 : Int32))).toNatClampNeg), .int (xs ((x3 + (2 : Int32))).toNatClampNeg)]) (rest := [.int r971.1]) hx hb hml hown hts hK hN hL hP hS (cX10_octet_ l bs D y hcb n (xs ((x3 + (1 : Int32))).toNatClampNeg) (xs ((x3 + (2 : Int32))).toNatClampNeg) r971.2.1 r971.2.2 r985 er985) ok_X10_octet ov_X10_octet ml_191 ⟨Nat.le_of_ble_eq_true rfl, Nat.le_of_ble_eq_true rfl⟩ rfl hcb kd_44_76 hl.1 rfl rfl (Nat.le_of_ble_eq_true rfl) ⟨Nat.le_of_ble_eq_true rfl, Nat.le_of_ble_eq_true rfl⟩ dL_law_985 (fun H locs hP hS => ?_)
  refine lv_icmp_eq (tgt := 1246) hx hb dL_law_988 (by decide) (fun c988 => ?_) (fun c988 => ?_)
  · replace h := if_t c988 h
    exact wL_law_1246 bs D y n L xs k18_ r Gc hk18_ x3 r985.2.1 r985.2.2 _ _ _ hP hS (lv_sub hl [0, 1, 2, 3] rfl) h
  · replace h := if_f c988 h
    refine lv_iconst (v := (0 : Int32)) hx hb dL_law_991 (by decide) ?_
    cases h
set_option maxHeartbeats 4000000 in
set_option maxRecDepth 100000 in
theorem wL_law_947 {p : Program} {l : Launch} {e : Env} {s : State} {m : MethodId} {b : Nat} {below : List Frame} {meth : Method} {c : Code} (bs : Nat) (D : va_G) (y : Y3) (n : Nat) (L : Nat) (xs : Nat → Int32) (k18_ : Int32 → MI → MJ → Option (Unit)) (r : Unit) (Gc : GL p s m meth c b L xs bs D y) (hk18_ : ∀ (x3 : Int32) (I : MI) (J : MJ) (H : Heap) (locs : List Loc) (ls : Array Slot), va_P D vwCl (wl bs y I J) H → va_S (FA bs) s.heap H locs → lv_has ls 4 [(0, .ref b), (1, .ref (bs + 0)), (2, .ref (bs + 44)), (3, .int x3)] → k18_ x3 I J = some r → W p l e room_1 s m #[Value.ref b] below meth c H locs 76 8771 (lw_Z below #[Value.ref b] s) (F0 m 18 ls [])) (x3 : Int32) (I : MI) (J : MJ) (H : Heap) (locs : List Loc) (ls : Array Slot) (hP : va_P D vwCl (wl bs y I J) H) (hS : va_S (FA bs) s.heap H locs) (hl : lv_has ls 4 [(0, .ref b), (1, .ref (bs + 0)), (2, .ref (bs + 44)), (3, .int x3)]) (h : fL_law_947 n L xs k18_ x3 I J = some r) : W p l e room_1 s m #[Value.ref b] below meth c H locs 76 8771 (lw_Z below #[Value.ref b] s) (F0 m 947 ls []) := by
  obtain ⟨hx, hb, hml, hown, hts, hK, hN, hL, hr, hlocks, hcb, hX, hbl, hbs⟩ := id Gc
  have hbA : ¬ FA bs b := by rw [hbs]; exact Nat.not_le.mpr hbl
  unfold fL_law_947 at h
  refine lv_aload_n hx hb dL_law_947 rfl (lv_at hl 1 rfl) ?_
  obtain ⟨r948, er948, h⟩ := bd_s1 h
  refine c_VI (k := 0) (ci := 9) (As := []) (rest := []) hx hb hml hown hts hK hN hL hP hS (cX9_frames_ l bs D y (Nat.le_trans (by decide) hcb) n  I J r948 er948) ok_X9_frames ov_X9_frames ml_192 ⟨Nat.le_of_ble_eq_true rfl, Nat.le_of_ble_eq_true rfl⟩ rfl hcb kd_0_76 hl.1 rfl rfl (Nat.le_of_ble_eq_true rfl) ⟨Nat.le_of_ble_eq_true rfl, Nat.le_of_ble_eq_true rfl⟩ dL_law_948 (fun H locs hP hS => ?_)
  refine lv_aload_n hx hb dL_law_951 rfl (lv_at hl 2 rfl) ?_
  obtain ⟨r952, er952, h⟩ := bd_s1 h
  refine c_VI (k := 44) (ci := 10) (As := []) (rest := [.int r948.1]) hx hb hml hown hts hK hN hL hP hS (cX10_frames_ l bs D y hcb n  r948.2.1 r948.2.2 r952 er952) ok_X10_frames ov_X10_frames ml_193 ⟨Nat.le_of_ble_eq_true rfl, Nat.le_of_ble_eq_true rfl⟩ rfl hcb kd_44_76 hl.1 rfl rfl (Nat.le_of_ble_eq_true rfl) ⟨Nat.le_of_ble_eq_true rfl, Nat.le_of_ble_eq_true rfl⟩ dL_law_952 (fun H locs hP hS => ?_)
  refine lv_icmp_eq (tgt := 1246) hx hb dL_law_955 (by decide) (fun c955 => ?_) (fun c955 => ?_)
  · replace h := if_t c955 h
    exact wL_law_1246 bs D y n L xs k18_ r Gc hk18_ x3 r952.2.1 r952.2.2 _ _ _ hP hS (lv_sub hl [0, 1, 2, 3] rfl) h
  · replace h := if_f c955 h
    refine lv_iconst (v := (0 : Int32)) hx hb dL_law_958 (by decide) ?_
    cases h
set_option maxHeartbeats 4000000 in
set_option maxRecDepth 100000 in
theorem wL_law_934 {p : Program} {l : Launch} {e : Env} {s : State} {m : MethodId} {b : Nat} {below : List Frame} {meth : Method} {c : Code} (bs : Nat) (D : va_G) (y : Y3) (n : Nat) (L : Nat) (xs : Nat → Int32) (k18_ : Int32 → MI → MJ → Option (Unit)) (r : Unit) (Gc : GL p s m meth c b L xs bs D y) (hk18_ : ∀ (x3 : Int32) (I : MI) (J : MJ) (H : Heap) (locs : List Loc) (ls : Array Slot), va_P D vwCl (wl bs y I J) H → va_S (FA bs) s.heap H locs → lv_has ls 4 [(0, .ref b), (1, .ref (bs + 0)), (2, .ref (bs + 44)), (3, .int x3)] → k18_ x3 I J = some r → W p l e room_1 s m #[Value.ref b] below meth c H locs 76 8771 (lw_Z below #[Value.ref b] s) (F0 m 18 ls [])) (x3 : Int32) (I : MI) (J : MJ) (H : Heap) (locs : List Loc) (ls : Array Slot) (hP : va_P D vwCl (wl bs y I J) H) (hS : va_S (FA bs) s.heap H locs) (hl : lv_has ls 4 [(0, .ref b), (1, .ref (bs + 0)), (2, .ref (bs + 44)), (3, .int x3)]) (h : fL_law_934 n L xs k18_ x3 I J = some r) : W p l e room_1 s m #[Value.ref b] below meth c H locs 76 8771 (lw_Z below #[Value.ref b] s) (F0 m 934 ls []) := by
  obtain ⟨hx, hb, hml, hown, hts, hK, hN, hL, hr, hlocks, hcb, hX, hbl, hbs⟩ := id Gc
  have hbA : ¬ FA bs b := by rw [hbs]; exact Nat.not_le.mpr hbl
  unfold fL_law_934 at h
  refine lv_aload_n hx hb dL_law_934 rfl (lv_at hl 1 rfl) ?_
  obtain ⟨r935, er935, h⟩ := bd_s1 h
  refine c_VI (k := 0) (ci := 9) (As := []) (rest := []) hx hb hml hown hts hK hN hL hP hS (cX9_longest_ l bs D y (Nat.le_trans (by decide) hcb) n  I J r935 er935) ok_X9_longest ov_X9_longest ml_194 ⟨Nat.le_of_ble_eq_true rfl, Nat.le_of_ble_eq_true rfl⟩ rfl hcb kd_0_76 hl.1 rfl rfl (Nat.le_of_ble_eq_true rfl) ⟨Nat.le_of_ble_eq_true rfl, Nat.le_of_ble_eq_true rfl⟩ dL_law_935 (fun H locs hP hS => ?_)
  refine lv_aload_n hx hb dL_law_938 rfl (lv_at hl 2 rfl) ?_
  obtain ⟨r939, er939, h⟩ := bd_s1 h
  refine c_VI (k := 44) (ci := 10) (As := []) (rest := [.int r935.1]) hx hb hml hown hts hK hN hL hP hS (cX10_longest_ l bs D y hcb n  r935.2.1 r935.2.2 r939 er939) ok_X10_longest ov_X10_longest ml_195 ⟨Nat.le_of_ble_eq_true rfl, Nat.le_of_ble_eq_true rfl⟩ rfl hcb kd_44_76 hl.1 rfl rfl (Nat.le_of_ble_eq_true rfl) ⟨Nat.le_of_ble_eq_true rfl, Nat.le_of_ble_eq_true rfl⟩ dL_law_939 (fun H locs hP hS => ?_)
  refine lv_icmp_eq (tgt := 1246) hx hb dL_law_942 (by decide) (fun c942 => ?_) (fun c942 => ?_)
  · replace h := if_t c942 h
    exact wL_law_1246 bs D y n L xs k18_ r Gc hk18_ x3 r939.2.1 r939.2.2 _ _ _ hP hS (lv_sub hl [0, 1, 2, 3] rfl) h
  · replace h := if_f c942 h
    refine lv_iconst (v := (0 : Int32)) hx hb dL_law_945 (by decide) ?_
    cases h
set_option maxHeartbeats 4000000 in
set_option maxRecDepth 100000 in
theorem wL_law_901 {p : Program} {l : Launch} {e : Env} {s : State} {m : MethodId} {b : Nat} {below : List Frame} {meth : Method} {c : Code} (bs : Nat) (D : va_G) (y : Y3) (n : Nat) (L : Nat) (xs : Nat → Int32) (k18_ : Int32 → MI → MJ → Option (Unit)) (r : Unit) (Gc : GL p s m meth c b L xs bs D y) (hk18_ : ∀ (x3 : Int32) (I : MI) (J : MJ) (H : Heap) (locs : List Loc) (ls : Array Slot), va_P D vwCl (wl bs y I J) H → va_S (FA bs) s.heap H locs → lv_has ls 4 [(0, .ref b), (1, .ref (bs + 0)), (2, .ref (bs + 44)), (3, .int x3)] → k18_ x3 I J = some r → W p l e room_1 s m #[Value.ref b] below meth c H locs 76 8771 (lw_Z below #[Value.ref b] s) (F0 m 18 ls [])) (x3 : Int32) (I : MI) (J : MJ) (H : Heap) (locs : List Loc) (ls : Array Slot) (hP : va_P D vwCl (wl bs y I J) H) (hS : va_S (FA bs) s.heap H locs) (hl : lv_has ls 4 [(0, .ref b), (1, .ref (bs + 0)), (2, .ref (bs + 44)), (3, .int x3)]) (h : fL_law_901 n L xs k18_ x3 I J = some r) : W p l e room_1 s m #[Value.ref b] below meth c H locs 76 8771 (lw_Z below #[Value.ref b] s) (F0 m 901 ls []) := by
  obtain ⟨hx, hb, hml, hown, hts, hK, hN, hL, hr, hlocks, hcb, hX, hbl, hbs⟩ := id Gc
  have hbA : ¬ FA bs b := by rw [hbs]; exact Nat.not_le.mpr hbl
  unfold fL_law_901 at h
  refine lv_aload_n hx hb dL_law_901 rfl (lv_at hl 1 rfl) ?_
  refine lv_aload_n hx hb dL_law_902 rfl (lv_at hl 0 rfl) ?_
  refine lv_iload_n hx hb dL_law_903 rfl (lv_at hl 3 rfl) ?_
  refine lv_iconst (v := (1 : Int32)) hx hb dL_law_904 (by decide) ?_
  refine lv_iadd hx hb dL_law_905 ?_
  obtain ⟨hi906, h⟩ := if_s1 h
  refine va_sld hx hb hX hbl hbA hS (inb_in hi906) dL_law_906 ?_
  refine lv_aload_n hx hb dL_law_907 rfl (lv_at hl 0 rfl) ?_
  refine lv_iload_n hx hb dL_law_908 rfl (lv_at hl 3 rfl) ?_
  refine lv_iconst (v := (2 : Int32)) hx hb dL_law_909 (by decide) ?_
  refine lv_iadd hx hb dL_law_910 ?_
  obtain ⟨hi911, h⟩ := if_s1 h
  refine va_sld hx hb hX hbl hbA hS (inb_in hi911) dL_law_911 ?_
  obtain ⟨r912, er912, h⟩ := bd_s1 h
  refine c_VI (k := 0) (ci := 9) (As := [.int (xs ((x3 + (1 : Int32))).toNatClampNeg), .int (xs ((x3 + (2 : Int32))).toNatClampNeg)]) (rest := []) hx hb hml hown hts hK hN hL hP hS (cX9_side_ l bs D y (Nat.le_trans (by decide) hcb) n (xs ((x3 + (1 : Int32))).toNatClampNeg) (xs ((x3 + (2 : Int32))).toNatClampNeg) I J r912 er912) ok_X9_side ov_X9_side ml_196 ⟨Nat.le_of_ble_eq_true rfl, Nat.le_of_ble_eq_true rfl⟩ rfl hcb kd_0_76 hl.1 rfl rfl (Nat.le_of_ble_eq_true rfl) ⟨Nat.le_of_ble_eq_true rfl, Nat.le_of_ble_eq_true rfl⟩ dL_law_912 (fun H locs hP hS => ?_)
  refine lv_aload_n hx hb dL_law_915 rfl (lv_at hl 2 rfl) ?_
  refine lv_aload_n hx hb dL_law_916 rfl (lv_at hl 0 rfl) ?_
  refine lv_iload_n hx hb dL_law_917 rfl (lv_at hl 3 rfl) ?_
  refine lv_iconst (v := (1 : Int32)) hx hb dL_law_918 (by decide) ?_
  refine lv_iadd hx hb dL_law_919 ?_
  obtain ⟨hi920, h⟩ := if_s1 h
  refine va_sld hx hb hX hbl hbA hS (inb_in hi920) dL_law_920 ?_
  refine lv_aload_n hx hb dL_law_921 rfl (lv_at hl 0 rfl) ?_
  refine lv_iload_n hx hb dL_law_922 rfl (lv_at hl 3 rfl) ?_
  refine lv_iconst (v := (2 : Int32)) hx hb dL_law_923 (by decide) ?_
  refine lv_iadd hx hb dL_law_924 ?_
  obtain ⟨hi925, h⟩ := if_s1 h
  refine va_sld hx hb hX hbl hbA hS (inb_in hi925) dL_law_925 ?_
  obtain ⟨r926, er926, h⟩ := bd_s1 h
  refine c_VI (k := 44) (ci := 10) (As := [.int (xs ((x3 + (1 : Int32))).toNatClampNeg), .int (xs ((x3 + (2 : Int32))).toNatClampNeg)]) (rest := [.int r912.1]) hx hb hml hown hts hK hN hL hP hS (cX10_side_ l bs D y hcb n (xs ((x3 + (1 : Int32))).toNatClampNeg) (xs ((x3 + (2 : Int32))).toNatClampNeg) r912.2.1 r912.2.2 r926 er926) ok_X10_side ov_X10_side ml_197 ⟨Nat.le_of_ble_eq_true rfl, Nat.le_of_ble_eq_true rfl⟩ rfl hcb kd_44_76 hl.1 rfl rfl (Nat.le_of_ble_eq_true rfl) ⟨Nat.le_of_ble_eq_true rfl, Nat.le_of_ble_eq_true rfl⟩ dL_law_926 (fun H locs hP hS => ?_)
  refine lv_icmp_eq (tgt := 1246) hx hb dL_law_929 (by decide) (fun c929 => ?_) (fun c929 => ?_)
  · replace h := if_t c929 h
    exact wL_law_1246 bs D y n L xs k18_ r Gc hk18_ x3 r926.2.1 r926.2.2 _ _ _ hP hS (lv_sub hl [0, 1, 2, 3] rfl) h
  · replace h := if_f c929 h
    refine lv_iconst (v := (0 : Int32)) hx hb dL_law_932 (by decide) ?_
    cases h
set_option maxHeartbeats 4000000 in
set_option maxRecDepth 100000 in
theorem wL_law_868 {p : Program} {l : Launch} {e : Env} {s : State} {m : MethodId} {b : Nat} {below : List Frame} {meth : Method} {c : Code} (bs : Nat) (D : va_G) (y : Y3) (n : Nat) (L : Nat) (xs : Nat → Int32) (k18_ : Int32 → MI → MJ → Option (Unit)) (r : Unit) (Gc : GL p s m meth c b L xs bs D y) (hk18_ : ∀ (x3 : Int32) (I : MI) (J : MJ) (H : Heap) (locs : List Loc) (ls : Array Slot), va_P D vwCl (wl bs y I J) H → va_S (FA bs) s.heap H locs → lv_has ls 4 [(0, .ref b), (1, .ref (bs + 0)), (2, .ref (bs + 44)), (3, .int x3)] → k18_ x3 I J = some r → W p l e room_1 s m #[Value.ref b] below meth c H locs 76 8771 (lw_Z below #[Value.ref b] s) (F0 m 18 ls [])) (x3 : Int32) (I : MI) (J : MJ) (H : Heap) (locs : List Loc) (ls : Array Slot) (hP : va_P D vwCl (wl bs y I J) H) (hS : va_S (FA bs) s.heap H locs) (hl : lv_has ls 4 [(0, .ref b), (1, .ref (bs + 0)), (2, .ref (bs + 44)), (3, .int x3)]) (h : fL_law_868 n L xs k18_ x3 I J = some r) : W p l e room_1 s m #[Value.ref b] below meth c H locs 76 8771 (lw_Z below #[Value.ref b] s) (F0 m 868 ls []) := by
  obtain ⟨hx, hb, hml, hown, hts, hK, hN, hL, hr, hlocks, hcb, hX, hbl, hbs⟩ := id Gc
  have hbA : ¬ FA bs b := by rw [hbs]; exact Nat.not_le.mpr hbl
  unfold fL_law_868 at h
  refine lv_aload_n hx hb dL_law_868 rfl (lv_at hl 1 rfl) ?_
  refine lv_aload_n hx hb dL_law_869 rfl (lv_at hl 0 rfl) ?_
  refine lv_iload_n hx hb dL_law_870 rfl (lv_at hl 3 rfl) ?_
  refine lv_iconst (v := (1 : Int32)) hx hb dL_law_871 (by decide) ?_
  refine lv_iadd hx hb dL_law_872 ?_
  obtain ⟨hi873, h⟩ := if_s1 h
  refine va_sld hx hb hX hbl hbA hS (inb_in hi873) dL_law_873 ?_
  refine lv_aload_n hx hb dL_law_874 rfl (lv_at hl 0 rfl) ?_
  refine lv_iload_n hx hb dL_law_875 rfl (lv_at hl 3 rfl) ?_
  refine lv_iconst (v := (2 : Int32)) hx hb dL_law_876 (by decide) ?_
  refine lv_iadd hx hb dL_law_877 ?_
  obtain ⟨hi878, h⟩ := if_s1 h
  refine va_sld hx hb hX hbl hbA hS (inb_in hi878) dL_law_878 ?_
  obtain ⟨r879, er879, h⟩ := bd_s1 h
  refine c_VI (k := 0) (ci := 9) (As := [.int (xs ((x3 + (1 : Int32))).toNatClampNeg), .int (xs ((x3 + (2 : Int32))).toNatClampNeg)]) (rest := []) hx hb hml hown hts hK hN hL hP hS (cX9_way_ l bs D y (Nat.le_trans (by decide) hcb) n (xs ((x3 + (1 : Int32))).toNatClampNeg) (xs ((x3 + (2 : Int32))).toNatClampNeg) I J r879 er879) ok_X9_way ov_X9_way ml_198 ⟨Nat.le_of_ble_eq_true rfl, Nat.le_of_ble_eq_true rfl⟩ rfl hcb kd_0_76 hl.1 rfl rfl (Nat.le_of_ble_eq_true rfl) ⟨Nat.le_of_ble_eq_true rfl, Nat.le_of_ble_eq_true rfl⟩ dL_law_879 (fun H locs hP hS => ?_)
  refine lv_aload_n hx hb dL_law_882 rfl (lv_at hl 2 rfl) ?_
  refine lv_aload_n hx hb dL_law_883 rfl (lv_at hl 0 rfl) ?_
  refine lv_iload_n hx hb dL_law_884 rfl (lv_at hl 3 rfl) ?_
  refine lv_iconst (v := (1 : Int32)) hx hb dL_law_885 (by decide) ?_
  refine lv_iadd hx hb dL_law_886 ?_
  obtain ⟨hi887, h⟩ := if_s1 h
  refine va_sld hx hb hX hbl hbA hS (inb_in hi887) dL_law_887 ?_
  refine lv_aload_n hx hb dL_law_888 rfl (lv_at hl 0 rfl) ?_
  refine lv_iload_n hx hb dL_law_889 rfl (lv_at hl 3 rfl) ?_
  refine lv_iconst (v := (2 : Int32)) hx hb dL_law_890 (by decide) ?_
  refine lv_iadd hx hb dL_law_891 ?_
  obtain ⟨hi892, h⟩ := if_s1 h
  refine va_sld hx hb hX hbl hbA hS (inb_in hi892) dL_law_892 ?_
  obtain ⟨r893, er893, h⟩ := bd_s1 h
  refine c_VI (k := 44) (ci := 10) (As := [.int (xs ((x3 + (1 : Int32))).toNatClampNeg), .int (xs ((x3 + (2 : Int32))).toNatClampNeg)]) (rest := [.int r879.1]) hx hb hml hown hts hK hN hL hP hS (cX10_way_ l bs D y hcb n (xs ((x3 + (1 : Int32))).toNatClampNeg) (xs ((x3 + (2 : Int32))).toNatClampNeg) r879.2.1 r879.2.2 r893 er893) ok_X10_way ov_X10_way ml_199 ⟨Nat.le_of_ble_eq_true rfl, Nat.le_of_ble_eq_true rfl⟩ rfl hcb kd_44_76 hl.1 rfl rfl (Nat.le_of_ble_eq_true rfl) ⟨Nat.le_of_ble_eq_true rfl, Nat.le_of_ble_eq_true rfl⟩ dL_law_893 (fun H locs hP hS => ?_)
  refine lv_icmp_eq (tgt := 1246) hx hb dL_law_896 (by decide) (fun c896 => ?_) (fun c896 => ?_)
  · replace h := if_t c896 h
    exact wL_law_1246 bs D y n L xs k18_ r Gc hk18_ x3 r893.2.1 r893.2.2 _ _ _ hP hS (lv_sub hl [0, 1, 2, 3] rfl) h
  · replace h := if_f c896 h
    refine lv_iconst (v := (0 : Int32)) hx hb dL_law_899 (by decide) ?_
    cases h
set_option maxHeartbeats 4000000 in
set_option maxRecDepth 100000 in
theorem wL_law_845 {p : Program} {l : Launch} {e : Env} {s : State} {m : MethodId} {b : Nat} {below : List Frame} {meth : Method} {c : Code} (bs : Nat) (D : va_G) (y : Y3) (n : Nat) (L : Nat) (xs : Nat → Int32) (k18_ : Int32 → MI → MJ → Option (Unit)) (r : Unit) (Gc : GL p s m meth c b L xs bs D y) (hk18_ : ∀ (x3 : Int32) (I : MI) (J : MJ) (H : Heap) (locs : List Loc) (ls : Array Slot), va_P D vwCl (wl bs y I J) H → va_S (FA bs) s.heap H locs → lv_has ls 4 [(0, .ref b), (1, .ref (bs + 0)), (2, .ref (bs + 44)), (3, .int x3)] → k18_ x3 I J = some r → W p l e room_1 s m #[Value.ref b] below meth c H locs 76 8771 (lw_Z below #[Value.ref b] s) (F0 m 18 ls [])) (x3 : Int32) (I : MI) (J : MJ) (H : Heap) (locs : List Loc) (ls : Array Slot) (hP : va_P D vwCl (wl bs y I J) H) (hS : va_S (FA bs) s.heap H locs) (hl : lv_has ls 4 [(0, .ref b), (1, .ref (bs + 0)), (2, .ref (bs + 44)), (3, .int x3)]) (h : fL_law_845 n L xs k18_ x3 I J = some r) : W p l e room_1 s m #[Value.ref b] below meth c H locs 76 8771 (lw_Z below #[Value.ref b] s) (F0 m 845 ls []) := by
  obtain ⟨hx, hb, hml, hown, hts, hK, hN, hL, hr, hlocks, hcb, hX, hbl, hbs⟩ := id Gc
  have hbA : ¬ FA bs b := by rw [hbs]; exact Nat.not_le.mpr hbl
  unfold fL_law_845 at h
  refine lv_aload_n hx hb dL_law_845 rfl (lv_at hl 1 rfl) ?_
  refine lv_aload_n hx hb dL_law_846 rfl (lv_at hl 0 rfl) ?_
  refine lv_iload_n hx hb dL_law_847 rfl (lv_at hl 3 rfl) ?_
  refine lv_iconst (v := (1 : Int32)) hx hb dL_law_848 (by decide) ?_
  refine lv_iadd hx hb dL_law_849 ?_
  obtain ⟨hi850, h⟩ := if_s1 h
  refine va_sld hx hb hX hbl hbA hS (inb_in hi850) dL_law_850 ?_
  obtain ⟨r851, er851, h⟩ := bd_s1 h
  refine c_VI (k := 0) (ci := 9) (As := [.int (xs ((x3 + (1 : Int32))).toNatClampNeg)]) (rest := []) hx hb hml hown hts hK hN hL hP hS (cX9_joint_ l bs D y (Nat.le_trans (by decide) hcb) n (xs ((x3 + (1 : Int32))).toNatClampNeg) I J r851 er851) ok_X9_joint ov_X9_joint ml_200 ⟨Nat.le_of_ble_eq_true rfl, Nat.le_of_ble_eq_true rfl⟩ rfl hcb kd_0_76 hl.1 rfl rfl (Nat.le_of_ble_eq_true rfl) ⟨Nat.le_of_ble_eq_true rfl, Nat.le_of_ble_eq_true rfl⟩ dL_law_851 (fun H locs hP hS => ?_)
  refine lv_aload_n hx hb dL_law_854 rfl (lv_at hl 2 rfl) ?_
  refine lv_aload_n hx hb dL_law_855 rfl (lv_at hl 0 rfl) ?_
  refine lv_iload_n hx hb dL_law_856 rfl (lv_at hl 3 rfl) ?_
  refine lv_iconst (v := (1 : Int32)) hx hb dL_law_857 (by decide) ?_
  refine lv_iadd hx hb dL_law_858 ?_
  obtain ⟨hi859, h⟩ := if_s1 h
  refine va_sld hx hb hX hbl hbA hS (inb_in hi859) dL_law_859 ?_
  obtain ⟨r860, er860, h⟩ := bd_s1 h
  refine c_VI (k := 44) (ci := 10) (As := [.int (xs ((x3 + (1 : Int32))).toNatClampNeg)]) (rest := [.int r851.1]) hx hb hml hown hts hK hN hL hP hS (cX10_joint_ l bs D y hcb n (xs ((x3 + (1 : Int32))).toNatClampNeg) r851.2.1 r851.2.2 r860 er860) ok_X10_joint ov_X10_joint ml_201 ⟨Nat.le_of_ble_eq_true rfl, Nat.le_of_ble_eq_true rfl⟩ rfl hcb kd_44_76 hl.1 rfl rfl (Nat.le_of_ble_eq_true rfl) ⟨Nat.le_of_ble_eq_true rfl, Nat.le_of_ble_eq_true rfl⟩ dL_law_860 (fun H locs hP hS => ?_)
  refine lv_icmp_eq (tgt := 1246) hx hb dL_law_863 (by decide) (fun c863 => ?_) (fun c863 => ?_)
  · replace h := if_t c863 h
    exact wL_law_1246 bs D y n L xs k18_ r Gc hk18_ x3 r860.2.1 r860.2.2 _ _ _ hP hS (lv_sub hl [0, 1, 2, 3] rfl) h
  · replace h := if_f c863 h
    refine lv_iconst (v := (0 : Int32)) hx hb dL_law_866 (by decide) ?_
    cases h
set_option maxHeartbeats 4000000 in
set_option maxRecDepth 100000 in
theorem wL_law_822 {p : Program} {l : Launch} {e : Env} {s : State} {m : MethodId} {b : Nat} {below : List Frame} {meth : Method} {c : Code} (bs : Nat) (D : va_G) (y : Y3) (n : Nat) (L : Nat) (xs : Nat → Int32) (k18_ : Int32 → MI → MJ → Option (Unit)) (r : Unit) (Gc : GL p s m meth c b L xs bs D y) (hk18_ : ∀ (x3 : Int32) (I : MI) (J : MJ) (H : Heap) (locs : List Loc) (ls : Array Slot), va_P D vwCl (wl bs y I J) H → va_S (FA bs) s.heap H locs → lv_has ls 4 [(0, .ref b), (1, .ref (bs + 0)), (2, .ref (bs + 44)), (3, .int x3)] → k18_ x3 I J = some r → W p l e room_1 s m #[Value.ref b] below meth c H locs 76 8771 (lw_Z below #[Value.ref b] s) (F0 m 18 ls [])) (x3 : Int32) (I : MI) (J : MJ) (H : Heap) (locs : List Loc) (ls : Array Slot) (hP : va_P D vwCl (wl bs y I J) H) (hS : va_S (FA bs) s.heap H locs) (hl : lv_has ls 4 [(0, .ref b), (1, .ref (bs + 0)), (2, .ref (bs + 44)), (3, .int x3)]) (h : fL_law_822 n L xs k18_ x3 I J = some r) : W p l e room_1 s m #[Value.ref b] below meth c H locs 76 8771 (lw_Z below #[Value.ref b] s) (F0 m 822 ls []) := by
  obtain ⟨hx, hb, hml, hown, hts, hK, hN, hL, hr, hlocks, hcb, hX, hbl, hbs⟩ := id Gc
  have hbA : ¬ FA bs b := by rw [hbs]; exact Nat.not_le.mpr hbl
  unfold fL_law_822 at h
  refine lv_aload_n hx hb dL_law_822 rfl (lv_at hl 1 rfl) ?_
  refine lv_aload_n hx hb dL_law_823 rfl (lv_at hl 0 rfl) ?_
  refine lv_iload_n hx hb dL_law_824 rfl (lv_at hl 3 rfl) ?_
  refine lv_iconst (v := (1 : Int32)) hx hb dL_law_825 (by decide) ?_
  refine lv_iadd hx hb dL_law_826 ?_
  obtain ⟨hi827, h⟩ := if_s1 h
  refine va_sld hx hb hX hbl hbA hS (inb_in hi827) dL_law_827 ?_
  obtain ⟨r828, er828, h⟩ := bd_s1 h
  refine c_VI (k := 0) (ci := 9) (As := [.int (xs ((x3 + (1 : Int32))).toNatClampNeg)]) (rest := []) hx hb hml hown hts hK hN hL hP hS (cX9_lead_ l bs D y (Nat.le_trans (by decide) hcb) n (xs ((x3 + (1 : Int32))).toNatClampNeg) I J r828 er828) ok_X9_lead ov_X9_lead ml_202 ⟨Nat.le_of_ble_eq_true rfl, Nat.le_of_ble_eq_true rfl⟩ rfl hcb kd_0_76 hl.1 rfl rfl (Nat.le_of_ble_eq_true rfl) ⟨Nat.le_of_ble_eq_true rfl, Nat.le_of_ble_eq_true rfl⟩ dL_law_828 (fun H locs hP hS => ?_)
  refine lv_aload_n hx hb dL_law_831 rfl (lv_at hl 2 rfl) ?_
  refine lv_aload_n hx hb dL_law_832 rfl (lv_at hl 0 rfl) ?_
  refine lv_iload_n hx hb dL_law_833 rfl (lv_at hl 3 rfl) ?_
  refine lv_iconst (v := (1 : Int32)) hx hb dL_law_834 (by decide) ?_
  refine lv_iadd hx hb dL_law_835 ?_
  obtain ⟨hi836, h⟩ := if_s1 h
  refine va_sld hx hb hX hbl hbA hS (inb_in hi836) dL_law_836 ?_
  obtain ⟨r837, er837, h⟩ := bd_s1 h
  refine c_VI (k := 44) (ci := 10) (As := [.int (xs ((x3 + (1 : Int32))).toNatClampNeg)]) (rest := [.int r828.1]) hx hb hml hown hts hK hN hL hP hS (cX10_lead_ l bs D y hcb n (xs ((x3 + (1 : Int32))).toNatClampNeg) r828.2.1 r828.2.2 r837 er837) ok_X10_lead ov_X10_lead ml_203 ⟨Nat.le_of_ble_eq_true rfl, Nat.le_of_ble_eq_true rfl⟩ rfl hcb kd_44_76 hl.1 rfl rfl (Nat.le_of_ble_eq_true rfl) ⟨Nat.le_of_ble_eq_true rfl, Nat.le_of_ble_eq_true rfl⟩ dL_law_837 (fun H locs hP hS => ?_)
  refine lv_icmp_eq (tgt := 1246) hx hb dL_law_840 (by decide) (fun c840 => ?_) (fun c840 => ?_)
  · replace h := if_t c840 h
    exact wL_law_1246 bs D y n L xs k18_ r Gc hk18_ x3 r837.2.1 r837.2.2 _ _ _ hP hS (lv_sub hl [0, 1, 2, 3] rfl) h
  · replace h := if_f c840 h
    refine lv_iconst (v := (0 : Int32)) hx hb dL_law_843 (by decide) ?_
    cases h
set_option maxHeartbeats 4000000 in
set_option maxRecDepth 100000 in
theorem wL_law_789 {p : Program} {l : Launch} {e : Env} {s : State} {m : MethodId} {b : Nat} {below : List Frame} {meth : Method} {c : Code} (bs : Nat) (D : va_G) (y : Y3) (n : Nat) (L : Nat) (xs : Nat → Int32) (k18_ : Int32 → MI → MJ → Option (Unit)) (r : Unit) (Gc : GL p s m meth c b L xs bs D y) (hk18_ : ∀ (x3 : Int32) (I : MI) (J : MJ) (H : Heap) (locs : List Loc) (ls : Array Slot), va_P D vwCl (wl bs y I J) H → va_S (FA bs) s.heap H locs → lv_has ls 4 [(0, .ref b), (1, .ref (bs + 0)), (2, .ref (bs + 44)), (3, .int x3)] → k18_ x3 I J = some r → W p l e room_1 s m #[Value.ref b] below meth c H locs 76 8771 (lw_Z below #[Value.ref b] s) (F0 m 18 ls [])) (x3 : Int32) (I : MI) (J : MJ) (H : Heap) (locs : List Loc) (ls : Array Slot) (hP : va_P D vwCl (wl bs y I J) H) (hS : va_S (FA bs) s.heap H locs) (hl : lv_has ls 4 [(0, .ref b), (1, .ref (bs + 0)), (2, .ref (bs + 44)), (3, .int x3)]) (h : fL_law_789 n L xs k18_ x3 I J = some r) : W p l e room_1 s m #[Value.ref b] below meth c H locs 76 8771 (lw_Z below #[Value.ref b] s) (F0 m 789 ls []) := by
  obtain ⟨hx, hb, hml, hown, hts, hK, hN, hL, hr, hlocks, hcb, hX, hbl, hbs⟩ := id Gc
  have hbA : ¬ FA bs b := by rw [hbs]; exact Nat.not_le.mpr hbl
  unfold fL_law_789 at h
  refine lv_aload_n hx hb dL_law_789 rfl (lv_at hl 1 rfl) ?_
  refine lv_aload_n hx hb dL_law_790 rfl (lv_at hl 0 rfl) ?_
  refine lv_iload_n hx hb dL_law_791 rfl (lv_at hl 3 rfl) ?_
  refine lv_iconst (v := (1 : Int32)) hx hb dL_law_792 (by decide) ?_
  refine lv_iadd hx hb dL_law_793 ?_
  obtain ⟨hi794, h⟩ := if_s1 h
  refine va_sld hx hb hX hbl hbA hS (inb_in hi794) dL_law_794 ?_
  refine lv_aload_n hx hb dL_law_795 rfl (lv_at hl 0 rfl) ?_
  refine lv_iload_n hx hb dL_law_796 rfl (lv_at hl 3 rfl) ?_
  refine lv_iconst (v := (2 : Int32)) hx hb dL_law_797 (by decide) ?_
  refine lv_iadd hx hb dL_law_798 ?_
  obtain ⟨hi799, h⟩ := if_s1 h
  refine va_sld hx hb hX hbl hbA hS (inb_in hi799) dL_law_799 ?_
  obtain ⟨r800, er800, h⟩ := bd_s1 h
  refine c_VI (k := 0) (ci := 9) (As := [.int (xs ((x3 + (1 : Int32))).toNatClampNeg), .int (xs ((x3 + (2 : Int32))).toNatClampNeg)]) (rest := []) hx hb hml hown hts hK hN hL hP hS (cX9_wires_ l bs D y (Nat.le_trans (by decide) hcb) n (xs ((x3 + (1 : Int32))).toNatClampNeg) (xs ((x3 + (2 : Int32))).toNatClampNeg) I J r800 er800) ok_X9_wires ov_X9_wires ml_204 ⟨Nat.le_of_ble_eq_true rfl, Nat.le_of_ble_eq_true rfl⟩ rfl hcb kd_0_76 hl.1 rfl rfl (Nat.le_of_ble_eq_true rfl) ⟨Nat.le_of_ble_eq_true rfl, Nat.le_of_ble_eq_true rfl⟩ dL_law_800 (fun H locs hP hS => ?_)
  refine lv_aload_n hx hb dL_law_803 rfl (lv_at hl 2 rfl) ?_
  refine lv_aload_n hx hb dL_law_804 rfl (lv_at hl 0 rfl) ?_
  refine lv_iload_n hx hb dL_law_805 rfl (lv_at hl 3 rfl) ?_
  refine lv_iconst (v := (1 : Int32)) hx hb dL_law_806 (by decide) ?_
  refine lv_iadd hx hb dL_law_807 ?_
  obtain ⟨hi808, h⟩ := if_s1 h
  refine va_sld hx hb hX hbl hbA hS (inb_in hi808) dL_law_808 ?_
  refine lv_aload_n hx hb dL_law_809 rfl (lv_at hl 0 rfl) ?_
  refine lv_iload_n hx hb dL_law_810 rfl (lv_at hl 3 rfl) ?_
  refine lv_iconst (v := (2 : Int32)) hx hb dL_law_811 (by decide) ?_
  refine lv_iadd hx hb dL_law_812 ?_
  obtain ⟨hi813, h⟩ := if_s1 h
  refine va_sld hx hb hX hbl hbA hS (inb_in hi813) dL_law_813 ?_
  obtain ⟨r814, er814, h⟩ := bd_s1 h
  refine c_VI (k := 44) (ci := 10) (As := [.int (xs ((x3 + (1 : Int32))).toNatClampNeg), .int (xs ((x3 + (2 : Int32))).toNatClampNeg)]) (rest := [.int r800.1]) hx hb hml hown hts hK hN hL hP hS (cX10_wires_ l bs D y hcb n (xs ((x3 + (1 : Int32))).toNatClampNeg) (xs ((x3 + (2 : Int32))).toNatClampNeg) r800.2.1 r800.2.2 r814 er814) ok_X10_wires ov_X10_wires ml_205 ⟨Nat.le_of_ble_eq_true rfl, Nat.le_of_ble_eq_true rfl⟩ rfl hcb kd_44_76 hl.1 rfl rfl (Nat.le_of_ble_eq_true rfl) ⟨Nat.le_of_ble_eq_true rfl, Nat.le_of_ble_eq_true rfl⟩ dL_law_814 (fun H locs hP hS => ?_)
  refine lv_icmp_eq (tgt := 1246) hx hb dL_law_817 (by decide) (fun c817 => ?_) (fun c817 => ?_)
  · replace h := if_t c817 h
    exact wL_law_1246 bs D y n L xs k18_ r Gc hk18_ x3 r814.2.1 r814.2.2 _ _ _ hP hS (lv_sub hl [0, 1, 2, 3] rfl) h
  · replace h := if_f c817 h
    refine lv_iconst (v := (0 : Int32)) hx hb dL_law_820 (by decide) ?_
    cases h
set_option maxHeartbeats 4000000 in
set_option maxRecDepth 100000 in
theorem wL_law_776 {p : Program} {l : Launch} {e : Env} {s : State} {m : MethodId} {b : Nat} {below : List Frame} {meth : Method} {c : Code} (bs : Nat) (D : va_G) (y : Y3) (n : Nat) (L : Nat) (xs : Nat → Int32) (k18_ : Int32 → MI → MJ → Option (Unit)) (r : Unit) (Gc : GL p s m meth c b L xs bs D y) (hk18_ : ∀ (x3 : Int32) (I : MI) (J : MJ) (H : Heap) (locs : List Loc) (ls : Array Slot), va_P D vwCl (wl bs y I J) H → va_S (FA bs) s.heap H locs → lv_has ls 4 [(0, .ref b), (1, .ref (bs + 0)), (2, .ref (bs + 44)), (3, .int x3)] → k18_ x3 I J = some r → W p l e room_1 s m #[Value.ref b] below meth c H locs 76 8771 (lw_Z below #[Value.ref b] s) (F0 m 18 ls [])) (x3 : Int32) (I : MI) (J : MJ) (H : Heap) (locs : List Loc) (ls : Array Slot) (hP : va_P D vwCl (wl bs y I J) H) (hS : va_S (FA bs) s.heap H locs) (hl : lv_has ls 4 [(0, .ref b), (1, .ref (bs + 0)), (2, .ref (bs + 44)), (3, .int x3)]) (h : fL_law_776 n L xs k18_ x3 I J = some r) : W p l e room_1 s m #[Value.ref b] below meth c H locs 76 8771 (lw_Z below #[Value.ref b] s) (F0 m 776 ls []) := by
  obtain ⟨hx, hb, hml, hown, hts, hK, hN, hL, hr, hlocks, hcb, hX, hbl, hbs⟩ := id Gc
  have hbA : ¬ FA bs b := by rw [hbs]; exact Nat.not_le.mpr hbl
  unfold fL_law_776 at h
  refine lv_aload_n hx hb dL_law_776 rfl (lv_at hl 1 rfl) ?_
  obtain ⟨r777, er777, h⟩ := bd_s1 h
  refine c_VI (k := 0) (ci := 9) (As := []) (rest := []) hx hb hml hown hts hK hN hL hP hS (cX9_cost_ l bs D y (Nat.le_trans (by decide) hcb) n  I J r777 er777) ok_X9_cost ov_X9_cost ml_206 ⟨Nat.le_of_ble_eq_true rfl, Nat.le_of_ble_eq_true rfl⟩ rfl hcb kd_0_76 hl.1 rfl rfl (Nat.le_of_ble_eq_true rfl) ⟨Nat.le_of_ble_eq_true rfl, Nat.le_of_ble_eq_true rfl⟩ dL_law_777 (fun H locs hP hS => ?_)
  refine lv_aload_n hx hb dL_law_780 rfl (lv_at hl 2 rfl) ?_
  obtain ⟨r781, er781, h⟩ := bd_s1 h
  refine c_VI (k := 44) (ci := 10) (As := []) (rest := [.int r777.1]) hx hb hml hown hts hK hN hL hP hS (cX10_cost_ l bs D y hcb n  r777.2.1 r777.2.2 r781 er781) ok_X10_cost ov_X10_cost ml_207 ⟨Nat.le_of_ble_eq_true rfl, Nat.le_of_ble_eq_true rfl⟩ rfl hcb kd_44_76 hl.1 rfl rfl (Nat.le_of_ble_eq_true rfl) ⟨Nat.le_of_ble_eq_true rfl, Nat.le_of_ble_eq_true rfl⟩ dL_law_781 (fun H locs hP hS => ?_)
  refine lv_icmp_eq (tgt := 1246) hx hb dL_law_784 (by decide) (fun c784 => ?_) (fun c784 => ?_)
  · replace h := if_t c784 h
    exact wL_law_1246 bs D y n L xs k18_ r Gc hk18_ x3 r781.2.1 r781.2.2 _ _ _ hP hS (lv_sub hl [0, 1, 2, 3] rfl) h
  · replace h := if_f c784 h
    refine lv_iconst (v := (0 : Int32)) hx hb dL_law_787 (by decide) ?_
    cases h
set_option maxHeartbeats 4000000 in
set_option maxRecDepth 100000 in
theorem wL_law_713 {p : Program} {l : Launch} {e : Env} {s : State} {m : MethodId} {b : Nat} {below : List Frame} {meth : Method} {c : Code} (bs : Nat) (D : va_G) (y : Y3) (n : Nat) (L : Nat) (xs : Nat → Int32) (k18_ : Int32 → MI → MJ → Option (Unit)) (r : Unit) (Gc : GL p s m meth c b L xs bs D y) (hk18_ : ∀ (x3 : Int32) (I : MI) (J : MJ) (H : Heap) (locs : List Loc) (ls : Array Slot), va_P D vwCl (wl bs y I J) H → va_S (FA bs) s.heap H locs → lv_has ls 4 [(0, .ref b), (1, .ref (bs + 0)), (2, .ref (bs + 44)), (3, .int x3)] → k18_ x3 I J = some r → W p l e room_1 s m #[Value.ref b] below meth c H locs 76 8771 (lw_Z below #[Value.ref b] s) (F0 m 18 ls [])) (x3 : Int32) (I : MI) (J : MJ) (H : Heap) (locs : List Loc) (ls : Array Slot) (hP : va_P D vwCl (wl bs y I J) H) (hS : va_S (FA bs) s.heap H locs) (hl : lv_has ls 4 [(0, .ref b), (1, .ref (bs + 0)), (2, .ref (bs + 44)), (3, .int x3)]) (h : fL_law_713 n L xs k18_ x3 I J = some r) : W p l e room_1 s m #[Value.ref b] below meth c H locs 76 8771 (lw_Z below #[Value.ref b] s) (F0 m 713 ls []) := by
  obtain ⟨hx, hb, hml, hown, hts, hK, hN, hL, hr, hlocks, hcb, hX, hbl, hbs⟩ := id Gc
  have hbA : ¬ FA bs b := by rw [hbs]; exact Nat.not_le.mpr hbl
  unfold fL_law_713 at h
  refine lv_aload_n hx hb dL_law_713 rfl (lv_at hl 1 rfl) ?_
  refine lv_aload_n hx hb dL_law_714 rfl (lv_at hl 0 rfl) ?_
  refine lv_iload_n hx hb dL_law_715 rfl (lv_at hl 3 rfl) ?_
  refine lv_iconst (v := (1 : Int32)) hx hb dL_law_716 (by decide) ?_
  refine lv_iadd hx hb dL_law_717 ?_
  obtain ⟨hi718, h⟩ := if_s1 h
  refine va_sld hx hb hX hbl hbA hS (inb_in hi718) dL_law_718 ?_
  refine lv_aload_n hx hb dL_law_719 rfl (lv_at hl 0 rfl) ?_
  refine lv_iload_n hx hb dL_law_720 rfl (lv_at hl 3 rfl) ?_
  refine lv_iconst (v := (2 : Int32)) hx hb dL_law_721 (by decide) ?_
  refine lv_iadd hx hb dL_law_722 ?_
  obtain ⟨hi723, h⟩ := if_s1 h
  refine va_sld hx hb hX hbl hbA hS (inb_in hi723) dL_law_723 ?_
  refine lv_i2l (v := ((xs ((x3 + (2 : Int32))).toNatClampNeg)).toInt64) hx hb dL_law_724 rfl ?_
  refine lv_bipush (v := (32 : Int32)) hx hb dL_law_725 (by decide) ?_
  refine lv_lshl (v := (shlL ((xs ((x3 + (2 : Int32))).toNatClampNeg)).toInt64 (32 : Int32))) hx hb dL_law_727 rfl ?_
  refine lv_aload_n hx hb dL_law_728 rfl (lv_at hl 0 rfl) ?_
  refine lv_iload_n hx hb dL_law_729 rfl (lv_at hl 3 rfl) ?_
  refine lv_iconst (v := (3 : Int32)) hx hb dL_law_730 (by decide) ?_
  refine lv_iadd hx hb dL_law_731 ?_
  obtain ⟨hi732, h⟩ := if_s1 h
  refine va_sld hx hb hX hbl hbA hS (inb_in hi732) dL_law_732 ?_
  refine lv_i2l (v := ((xs ((x3 + (3 : Int32))).toNatClampNeg)).toInt64) hx hb dL_law_733 rfl ?_
  refine lv_ldc2 hx hb hown (hts _ cl_21) dL_law_734 ?_
  refine lv_land hx hb dL_law_737 ?_
  refine lv_lor hx hb dL_law_738 ?_
  obtain ⟨r739, er739, h⟩ := bd_s1 h
  refine c_VI (k := 0) (ci := 9) (As := [.int (xs ((x3 + (1 : Int32))).toNatClampNeg), .long ((shlL ((xs ((x3 + (2 : Int32))).toNatClampNeg)).toInt64 (32 : Int32)) ||| (((xs ((x3 + (3 : Int32))).toNatClampNeg)).toInt64 &&& (4294967295 : Int64)))]) (rest := []) hx hb hml hown hts hK hN hL hP hS (cX9_smooth_ l bs D y (Nat.le_trans (by decide) hcb) n (xs ((x3 + (1 : Int32))).toNatClampNeg) ((shlL ((xs ((x3 + (2 : Int32))).toNatClampNeg)).toInt64 (32 : Int32)) ||| (((xs ((x3 + (3 : Int32))).toNatClampNeg)).toInt64 &&& (4294967295 : Int64))) I J r739 er739) ok_X9_smooth ov_X9_smooth ml_208 ⟨Nat.le_of_ble_eq_true rfl, Nat.le_of_ble_eq_true rfl⟩ rfl hcb kd_0_76 hl.1 rfl rfl (Nat.le_of_ble_eq_true rfl) ⟨Nat.le_of_ble_eq_true rfl, Nat.le_of_ble_eq_true rfl⟩ dL_law_739 (fun H locs hP hS => ?_)
  refine lv_aload_n hx hb dL_law_742 rfl (lv_at hl 2 rfl) ?_
  refine lv_aload_n hx hb dL_law_743 rfl (lv_at hl 0 rfl) ?_
  refine lv_iload_n hx hb dL_law_744 rfl (lv_at hl 3 rfl) ?_
  refine lv_iconst (v := (1 : Int32)) hx hb dL_law_745 (by decide) ?_
  refine lv_iadd hx hb dL_law_746 ?_
  obtain ⟨hi747, h⟩ := if_s1 h
  refine va_sld hx hb hX hbl hbA hS (inb_in hi747) dL_law_747 ?_
  refine lv_aload_n hx hb dL_law_748 rfl (lv_at hl 0 rfl) ?_
  refine lv_iload_n hx hb dL_law_749 rfl (lv_at hl 3 rfl) ?_
  refine lv_iconst (v := (2 : Int32)) hx hb dL_law_750 (by decide) ?_
  refine lv_iadd hx hb dL_law_751 ?_
  obtain ⟨hi752, h⟩ := if_s1 h
  refine va_sld hx hb hX hbl hbA hS (inb_in hi752) dL_law_752 ?_
  refine lv_i2l (v := ((xs ((x3 + (2 : Int32))).toNatClampNeg)).toInt64) hx hb dL_law_753 rfl ?_
  refine lv_bipush (v := (32 : Int32)) hx hb dL_law_754 (by decide) ?_
  refine lv_lshl (v := (shlL ((xs ((x3 + (2 : Int32))).toNatClampNeg)).toInt64 (32 : Int32))) hx hb dL_law_756 rfl ?_
  refine lv_aload_n hx hb dL_law_757 rfl (lv_at hl 0 rfl) ?_
  refine lv_iload_n hx hb dL_law_758 rfl (lv_at hl 3 rfl) ?_
  refine lv_iconst (v := (3 : Int32)) hx hb dL_law_759 (by decide) ?_
  refine lv_iadd hx hb dL_law_760 ?_
  obtain ⟨hi761, h⟩ := if_s1 h
  refine va_sld hx hb hX hbl hbA hS (inb_in hi761) dL_law_761 ?_
  refine lv_i2l (v := ((xs ((x3 + (3 : Int32))).toNatClampNeg)).toInt64) hx hb dL_law_762 rfl ?_
  refine lv_ldc2 hx hb hown (hts _ cl_21) dL_law_763 ?_
  refine lv_land hx hb dL_law_766 ?_
  refine lv_lor hx hb dL_law_767 ?_
  obtain ⟨r768, er768, h⟩ := bd_s1 h
  refine c_VI (k := 44) (ci := 10) (As := [.int (xs ((x3 + (1 : Int32))).toNatClampNeg), .long ((shlL ((xs ((x3 + (2 : Int32))).toNatClampNeg)).toInt64 (32 : Int32)) ||| (((xs ((x3 + (3 : Int32))).toNatClampNeg)).toInt64 &&& (4294967295 : Int64)))]) (rest := [.int r739.1]) hx hb hml hown hts hK hN hL hP hS (cX10_smooth_ l bs D y hcb n (xs ((x3 + (1 : Int32))).toNatClampNeg) ((shlL ((xs ((x3 + (2 : Int32))).toNatClampNeg)).toInt64 (32 : Int32)) ||| (((xs ((x3 + (3 : Int32))).toNatClampNeg)).toInt64 &&& (4294967295 : Int64))) r739.2.1 r739.2.2 r768 er768) ok_X10_smooth ov_X10_smooth ml_209 ⟨Nat.le_of_ble_eq_true rfl, Nat.le_of_ble_eq_true rfl⟩ rfl hcb kd_44_76 hl.1 rfl rfl (Nat.le_of_ble_eq_true rfl) ⟨Nat.le_of_ble_eq_true rfl, Nat.le_of_ble_eq_true rfl⟩ dL_law_768 (fun H locs hP hS => ?_)
  refine lv_icmp_eq (tgt := 1246) hx hb dL_law_771 (by decide) (fun c771 => ?_) (fun c771 => ?_)
  · replace h := if_t c771 h
    exact wL_law_1246 bs D y n L xs k18_ r Gc hk18_ x3 r768.2.1 r768.2.2 _ _ _ hP hS (lv_sub hl [0, 1, 2, 3] rfl) h
  · replace h := if_f c771 h
    refine lv_iconst (v := (0 : Int32)) hx hb dL_law_774 (by decide) ?_
    cases h
set_option maxHeartbeats 4000000 in
set_option maxRecDepth 100000 in
theorem wL_law_680 {p : Program} {l : Launch} {e : Env} {s : State} {m : MethodId} {b : Nat} {below : List Frame} {meth : Method} {c : Code} (bs : Nat) (D : va_G) (y : Y3) (n : Nat) (L : Nat) (xs : Nat → Int32) (k18_ : Int32 → MI → MJ → Option (Unit)) (r : Unit) (Gc : GL p s m meth c b L xs bs D y) (hk18_ : ∀ (x3 : Int32) (I : MI) (J : MJ) (H : Heap) (locs : List Loc) (ls : Array Slot), va_P D vwCl (wl bs y I J) H → va_S (FA bs) s.heap H locs → lv_has ls 4 [(0, .ref b), (1, .ref (bs + 0)), (2, .ref (bs + 44)), (3, .int x3)] → k18_ x3 I J = some r → W p l e room_1 s m #[Value.ref b] below meth c H locs 76 8771 (lw_Z below #[Value.ref b] s) (F0 m 18 ls [])) (x3 : Int32) (I : MI) (J : MJ) (H : Heap) (locs : List Loc) (ls : Array Slot) (hP : va_P D vwCl (wl bs y I J) H) (hS : va_S (FA bs) s.heap H locs) (hl : lv_has ls 4 [(0, .ref b), (1, .ref (bs + 0)), (2, .ref (bs + 44)), (3, .int x3)]) (h : fL_law_680 n L xs k18_ x3 I J = some r) : W p l e room_1 s m #[Value.ref b] below meth c H locs 76 8771 (lw_Z below #[Value.ref b] s) (F0 m 680 ls []) := by
  obtain ⟨hx, hb, hml, hown, hts, hK, hN, hL, hr, hlocks, hcb, hX, hbl, hbs⟩ := id Gc
  have hbA : ¬ FA bs b := by rw [hbs]; exact Nat.not_le.mpr hbl
  unfold fL_law_680 at h
  refine lv_aload_n hx hb dL_law_680 rfl (lv_at hl 1 rfl) ?_
  refine lv_aload_n hx hb dL_law_681 rfl (lv_at hl 0 rfl) ?_
  refine lv_iload_n hx hb dL_law_682 rfl (lv_at hl 3 rfl) ?_
  refine lv_iconst (v := (1 : Int32)) hx hb dL_law_683 (by decide) ?_
  refine lv_iadd hx hb dL_law_684 ?_
  obtain ⟨hi685, h⟩ := if_s1 h
  refine va_sld hx hb hX hbl hbA hS (inb_in hi685) dL_law_685 ?_
  refine lv_aload_n hx hb dL_law_686 rfl (lv_at hl 0 rfl) ?_
  refine lv_iload_n hx hb dL_law_687 rfl (lv_at hl 3 rfl) ?_
  refine lv_iconst (v := (2 : Int32)) hx hb dL_law_688 (by decide) ?_
  refine lv_iadd hx hb dL_law_689 ?_
  obtain ⟨hi690, h⟩ := if_s1 h
  refine va_sld hx hb hX hbl hbA hS (inb_in hi690) dL_law_690 ?_
  obtain ⟨r691, er691, h⟩ := bd_s1 h
  refine c_VI (k := 0) (ci := 9) (As := [.int (xs ((x3 + (1 : Int32))).toNatClampNeg), .int (xs ((x3 + (2 : Int32))).toNatClampNeg)]) (rest := []) hx hb hml hown hts hK hN hL hP hS (cX9_swap_ l bs D y (Nat.le_trans (by decide) hcb) n (xs ((x3 + (1 : Int32))).toNatClampNeg) (xs ((x3 + (2 : Int32))).toNatClampNeg) I J r691 er691) ok_X9_swap ov_X9_swap ml_210 ⟨Nat.le_of_ble_eq_true rfl, Nat.le_of_ble_eq_true rfl⟩ rfl hcb kd_0_76 hl.1 rfl rfl (Nat.le_of_ble_eq_true rfl) ⟨Nat.le_of_ble_eq_true rfl, Nat.le_of_ble_eq_true rfl⟩ dL_law_691 (fun H locs hP hS => ?_)
  refine lv_aload_n hx hb dL_law_694 rfl (lv_at hl 2 rfl) ?_
  refine lv_aload_n hx hb dL_law_695 rfl (lv_at hl 0 rfl) ?_
  refine lv_iload_n hx hb dL_law_696 rfl (lv_at hl 3 rfl) ?_
  refine lv_iconst (v := (1 : Int32)) hx hb dL_law_697 (by decide) ?_
  refine lv_iadd hx hb dL_law_698 ?_
  obtain ⟨hi699, h⟩ := if_s1 h
  refine va_sld hx hb hX hbl hbA hS (inb_in hi699) dL_law_699 ?_
  refine lv_aload_n hx hb dL_law_700 rfl (lv_at hl 0 rfl) ?_
  refine lv_iload_n hx hb dL_law_701 rfl (lv_at hl 3 rfl) ?_
  refine lv_iconst (v := (2 : Int32)) hx hb dL_law_702 (by decide) ?_
  refine lv_iadd hx hb dL_law_703 ?_
  obtain ⟨hi704, h⟩ := if_s1 h
  refine va_sld hx hb hX hbl hbA hS (inb_in hi704) dL_law_704 ?_
  obtain ⟨r705, er705, h⟩ := bd_s1 h
  refine c_VI (k := 44) (ci := 10) (As := [.int (xs ((x3 + (1 : Int32))).toNatClampNeg), .int (xs ((x3 + (2 : Int32))).toNatClampNeg)]) (rest := [.int r691.1]) hx hb hml hown hts hK hN hL hP hS (cX10_swap_ l bs D y hcb n (xs ((x3 + (1 : Int32))).toNatClampNeg) (xs ((x3 + (2 : Int32))).toNatClampNeg) r691.2.1 r691.2.2 r705 er705) ok_X10_swap ov_X10_swap ml_211 ⟨Nat.le_of_ble_eq_true rfl, Nat.le_of_ble_eq_true rfl⟩ rfl hcb kd_44_76 hl.1 rfl rfl (Nat.le_of_ble_eq_true rfl) ⟨Nat.le_of_ble_eq_true rfl, Nat.le_of_ble_eq_true rfl⟩ dL_law_705 (fun H locs hP hS => ?_)
  refine lv_icmp_eq (tgt := 1246) hx hb dL_law_708 (by decide) (fun c708 => ?_) (fun c708 => ?_)
  · replace h := if_t c708 h
    exact wL_law_1246 bs D y n L xs k18_ r Gc hk18_ x3 r705.2.1 r705.2.2 _ _ _ hP hS (lv_sub hl [0, 1, 2, 3] rfl) h
  · replace h := if_f c708 h
    refine lv_iconst (v := (0 : Int32)) hx hb dL_law_711 (by decide) ?_
    cases h
set_option maxHeartbeats 4000000 in
set_option maxRecDepth 100000 in
theorem wL_law_647 {p : Program} {l : Launch} {e : Env} {s : State} {m : MethodId} {b : Nat} {below : List Frame} {meth : Method} {c : Code} (bs : Nat) (D : va_G) (y : Y3) (n : Nat) (L : Nat) (xs : Nat → Int32) (k18_ : Int32 → MI → MJ → Option (Unit)) (r : Unit) (Gc : GL p s m meth c b L xs bs D y) (hk18_ : ∀ (x3 : Int32) (I : MI) (J : MJ) (H : Heap) (locs : List Loc) (ls : Array Slot), va_P D vwCl (wl bs y I J) H → va_S (FA bs) s.heap H locs → lv_has ls 4 [(0, .ref b), (1, .ref (bs + 0)), (2, .ref (bs + 44)), (3, .int x3)] → k18_ x3 I J = some r → W p l e room_1 s m #[Value.ref b] below meth c H locs 76 8771 (lw_Z below #[Value.ref b] s) (F0 m 18 ls [])) (x3 : Int32) (I : MI) (J : MJ) (H : Heap) (locs : List Loc) (ls : Array Slot) (hP : va_P D vwCl (wl bs y I J) H) (hS : va_S (FA bs) s.heap H locs) (hl : lv_has ls 4 [(0, .ref b), (1, .ref (bs + 0)), (2, .ref (bs + 44)), (3, .int x3)]) (h : fL_law_647 n L xs k18_ x3 I J = some r) : W p l e room_1 s m #[Value.ref b] below meth c H locs 76 8771 (lw_Z below #[Value.ref b] s) (F0 m 647 ls []) := by
  obtain ⟨hx, hb, hml, hown, hts, hK, hN, hL, hr, hlocks, hcb, hX, hbl, hbs⟩ := id Gc
  have hbA : ¬ FA bs b := by rw [hbs]; exact Nat.not_le.mpr hbl
  unfold fL_law_647 at h
  refine lv_aload_n hx hb dL_law_647 rfl (lv_at hl 1 rfl) ?_
  refine lv_aload_n hx hb dL_law_648 rfl (lv_at hl 0 rfl) ?_
  refine lv_iload_n hx hb dL_law_649 rfl (lv_at hl 3 rfl) ?_
  refine lv_iconst (v := (1 : Int32)) hx hb dL_law_650 (by decide) ?_
  refine lv_iadd hx hb dL_law_651 ?_
  obtain ⟨hi652, h⟩ := if_s1 h
  refine va_sld hx hb hX hbl hbA hS (inb_in hi652) dL_law_652 ?_
  refine lv_aload_n hx hb dL_law_653 rfl (lv_at hl 0 rfl) ?_
  refine lv_iload_n hx hb dL_law_654 rfl (lv_at hl 3 rfl) ?_
  refine lv_iconst (v := (2 : Int32)) hx hb dL_law_655 (by decide) ?_
  refine lv_iadd hx hb dL_law_656 ?_
  obtain ⟨hi657, h⟩ := if_s1 h
  refine va_sld hx hb hX hbl hbA hS (inb_in hi657) dL_law_657 ?_
  obtain ⟨r658, er658, h⟩ := bd_s1 h
  refine c_VI (k := 0) (ci := 9) (As := [.int (xs ((x3 + (1 : Int32))).toNatClampNeg), .int (xs ((x3 + (2 : Int32))).toNatClampNeg)]) (rest := []) hx hb hml hown hts hK hN hL hP hS (cX9_move_ l bs D y (Nat.le_trans (by decide) hcb) n (xs ((x3 + (1 : Int32))).toNatClampNeg) (xs ((x3 + (2 : Int32))).toNatClampNeg) I J r658 er658) ok_X9_move ov_X9_move ml_212 ⟨Nat.le_of_ble_eq_true rfl, Nat.le_of_ble_eq_true rfl⟩ rfl hcb kd_0_76 hl.1 rfl rfl (Nat.le_of_ble_eq_true rfl) ⟨Nat.le_of_ble_eq_true rfl, Nat.le_of_ble_eq_true rfl⟩ dL_law_658 (fun H locs hP hS => ?_)
  refine lv_aload_n hx hb dL_law_661 rfl (lv_at hl 2 rfl) ?_
  refine lv_aload_n hx hb dL_law_662 rfl (lv_at hl 0 rfl) ?_
  refine lv_iload_n hx hb dL_law_663 rfl (lv_at hl 3 rfl) ?_
  refine lv_iconst (v := (1 : Int32)) hx hb dL_law_664 (by decide) ?_
  refine lv_iadd hx hb dL_law_665 ?_
  obtain ⟨hi666, h⟩ := if_s1 h
  refine va_sld hx hb hX hbl hbA hS (inb_in hi666) dL_law_666 ?_
  refine lv_aload_n hx hb dL_law_667 rfl (lv_at hl 0 rfl) ?_
  refine lv_iload_n hx hb dL_law_668 rfl (lv_at hl 3 rfl) ?_
  refine lv_iconst (v := (2 : Int32)) hx hb dL_law_669 (by decide) ?_
  refine lv_iadd hx hb dL_law_670 ?_
  obtain ⟨hi671, h⟩ := if_s1 h
  refine va_sld hx hb hX hbl hbA hS (inb_in hi671) dL_law_671 ?_
  obtain ⟨r672, er672, h⟩ := bd_s1 h
  refine c_VI (k := 44) (ci := 10) (As := [.int (xs ((x3 + (1 : Int32))).toNatClampNeg), .int (xs ((x3 + (2 : Int32))).toNatClampNeg)]) (rest := [.int r658.1]) hx hb hml hown hts hK hN hL hP hS (cX10_move_ l bs D y hcb n (xs ((x3 + (1 : Int32))).toNatClampNeg) (xs ((x3 + (2 : Int32))).toNatClampNeg) r658.2.1 r658.2.2 r672 er672) ok_X10_move ov_X10_move ml_213 ⟨Nat.le_of_ble_eq_true rfl, Nat.le_of_ble_eq_true rfl⟩ rfl hcb kd_44_76 hl.1 rfl rfl (Nat.le_of_ble_eq_true rfl) ⟨Nat.le_of_ble_eq_true rfl, Nat.le_of_ble_eq_true rfl⟩ dL_law_672 (fun H locs hP hS => ?_)
  refine lv_icmp_eq (tgt := 1246) hx hb dL_law_675 (by decide) (fun c675 => ?_) (fun c675 => ?_)
  · replace h := if_t c675 h
    exact wL_law_1246 bs D y n L xs k18_ r Gc hk18_ x3 r672.2.1 r672.2.2 _ _ _ hP hS (lv_sub hl [0, 1, 2, 3] rfl) h
  · replace h := if_f c675 h
    refine lv_iconst (v := (0 : Int32)) hx hb dL_law_678 (by decide) ?_
    cases h
set_option maxHeartbeats 4000000 in
set_option maxRecDepth 100000 in
theorem wL_law_624 {p : Program} {l : Launch} {e : Env} {s : State} {m : MethodId} {b : Nat} {below : List Frame} {meth : Method} {c : Code} (bs : Nat) (D : va_G) (y : Y3) (n : Nat) (L : Nat) (xs : Nat → Int32) (k18_ : Int32 → MI → MJ → Option (Unit)) (r : Unit) (Gc : GL p s m meth c b L xs bs D y) (hk18_ : ∀ (x3 : Int32) (I : MI) (J : MJ) (H : Heap) (locs : List Loc) (ls : Array Slot), va_P D vwCl (wl bs y I J) H → va_S (FA bs) s.heap H locs → lv_has ls 4 [(0, .ref b), (1, .ref (bs + 0)), (2, .ref (bs + 44)), (3, .int x3)] → k18_ x3 I J = some r → W p l e room_1 s m #[Value.ref b] below meth c H locs 76 8771 (lw_Z below #[Value.ref b] s) (F0 m 18 ls [])) (x3 : Int32) (I : MI) (J : MJ) (H : Heap) (locs : List Loc) (ls : Array Slot) (hP : va_P D vwCl (wl bs y I J) H) (hS : va_S (FA bs) s.heap H locs) (hl : lv_has ls 4 [(0, .ref b), (1, .ref (bs + 0)), (2, .ref (bs + 44)), (3, .int x3)]) (h : fL_law_624 n L xs k18_ x3 I J = some r) : W p l e room_1 s m #[Value.ref b] below meth c H locs 76 8771 (lw_Z below #[Value.ref b] s) (F0 m 624 ls []) := by
  obtain ⟨hx, hb, hml, hown, hts, hK, hN, hL, hr, hlocks, hcb, hX, hbl, hbs⟩ := id Gc
  have hbA : ¬ FA bs b := by rw [hbs]; exact Nat.not_le.mpr hbl
  unfold fL_law_624 at h
  refine lv_aload_n hx hb dL_law_624 rfl (lv_at hl 1 rfl) ?_
  refine lv_aload_n hx hb dL_law_625 rfl (lv_at hl 0 rfl) ?_
  refine lv_iload_n hx hb dL_law_626 rfl (lv_at hl 3 rfl) ?_
  refine lv_iconst (v := (1 : Int32)) hx hb dL_law_627 (by decide) ?_
  refine lv_iadd hx hb dL_law_628 ?_
  obtain ⟨hi629, h⟩ := if_s1 h
  refine va_sld hx hb hX hbl hbA hS (inb_in hi629) dL_law_629 ?_
  obtain ⟨r630, er630, h⟩ := bd_s1 h
  refine c_VI (k := 0) (ci := 9) (As := [.int (xs ((x3 + (1 : Int32))).toNatClampNeg)]) (rest := []) hx hb hml hown hts hK hN hL hP hS (cX9_tile_ l bs D y (Nat.le_trans (by decide) hcb) n (xs ((x3 + (1 : Int32))).toNatClampNeg) I J r630 er630) ok_X9_tile ov_X9_tile ml_214 ⟨Nat.le_of_ble_eq_true rfl, Nat.le_of_ble_eq_true rfl⟩ rfl hcb kd_0_76 hl.1 rfl rfl (Nat.le_of_ble_eq_true rfl) ⟨Nat.le_of_ble_eq_true rfl, Nat.le_of_ble_eq_true rfl⟩ dL_law_630 (fun H locs hP hS => ?_)
  refine lv_aload_n hx hb dL_law_633 rfl (lv_at hl 2 rfl) ?_
  refine lv_aload_n hx hb dL_law_634 rfl (lv_at hl 0 rfl) ?_
  refine lv_iload_n hx hb dL_law_635 rfl (lv_at hl 3 rfl) ?_
  refine lv_iconst (v := (1 : Int32)) hx hb dL_law_636 (by decide) ?_
  refine lv_iadd hx hb dL_law_637 ?_
  obtain ⟨hi638, h⟩ := if_s1 h
  refine va_sld hx hb hX hbl hbA hS (inb_in hi638) dL_law_638 ?_
  obtain ⟨r639, er639, h⟩ := bd_s1 h
  refine c_VI (k := 44) (ci := 10) (As := [.int (xs ((x3 + (1 : Int32))).toNatClampNeg)]) (rest := [.int r630.1]) hx hb hml hown hts hK hN hL hP hS (cX10_tile_ l bs D y hcb n (xs ((x3 + (1 : Int32))).toNatClampNeg) r630.2.1 r630.2.2 r639 er639) ok_X10_tile ov_X10_tile ml_215 ⟨Nat.le_of_ble_eq_true rfl, Nat.le_of_ble_eq_true rfl⟩ rfl hcb kd_44_76 hl.1 rfl rfl (Nat.le_of_ble_eq_true rfl) ⟨Nat.le_of_ble_eq_true rfl, Nat.le_of_ble_eq_true rfl⟩ dL_law_639 (fun H locs hP hS => ?_)
  refine lv_icmp_eq (tgt := 1246) hx hb dL_law_642 (by decide) (fun c642 => ?_) (fun c642 => ?_)
  · replace h := if_t c642 h
    exact wL_law_1246 bs D y n L xs k18_ r Gc hk18_ x3 r639.2.1 r639.2.2 _ _ _ hP hS (lv_sub hl [0, 1, 2, 3] rfl) h
  · replace h := if_f c642 h
    refine lv_iconst (v := (0 : Int32)) hx hb dL_law_645 (by decide) ?_
    cases h
set_option maxHeartbeats 4000000 in
set_option maxRecDepth 100000 in
theorem wL_law_611 {p : Program} {l : Launch} {e : Env} {s : State} {m : MethodId} {b : Nat} {below : List Frame} {meth : Method} {c : Code} (bs : Nat) (D : va_G) (y : Y3) (n : Nat) (L : Nat) (xs : Nat → Int32) (k18_ : Int32 → MI → MJ → Option (Unit)) (r : Unit) (Gc : GL p s m meth c b L xs bs D y) (hk18_ : ∀ (x3 : Int32) (I : MI) (J : MJ) (H : Heap) (locs : List Loc) (ls : Array Slot), va_P D vwCl (wl bs y I J) H → va_S (FA bs) s.heap H locs → lv_has ls 4 [(0, .ref b), (1, .ref (bs + 0)), (2, .ref (bs + 44)), (3, .int x3)] → k18_ x3 I J = some r → W p l e room_1 s m #[Value.ref b] below meth c H locs 76 8771 (lw_Z below #[Value.ref b] s) (F0 m 18 ls [])) (x3 : Int32) (I : MI) (J : MJ) (H : Heap) (locs : List Loc) (ls : Array Slot) (hP : va_P D vwCl (wl bs y I J) H) (hS : va_S (FA bs) s.heap H locs) (hl : lv_has ls 4 [(0, .ref b), (1, .ref (bs + 0)), (2, .ref (bs + 44)), (3, .int x3)]) (h : fL_law_611 n L xs k18_ x3 I J = some r) : W p l e room_1 s m #[Value.ref b] below meth c H locs 76 8771 (lw_Z below #[Value.ref b] s) (F0 m 611 ls []) := by
  obtain ⟨hx, hb, hml, hown, hts, hK, hN, hL, hr, hlocks, hcb, hX, hbl, hbs⟩ := id Gc
  have hbA : ¬ FA bs b := by rw [hbs]; exact Nat.not_le.mpr hbl
  unfold fL_law_611 at h
  refine lv_aload_n hx hb dL_law_611 rfl (lv_at hl 1 rfl) ?_
  obtain ⟨r612, er612, h⟩ := bd_s1 h
  refine c_VI (k := 0) (ci := 9) (As := []) (rest := []) hx hb hml hown hts hK hN hL hP hS (cX9_set_ l bs D y (Nat.le_trans (by decide) hcb) n  I J r612 er612) ok_X9_set ov_X9_set ml_216 ⟨Nat.le_of_ble_eq_true rfl, Nat.le_of_ble_eq_true rfl⟩ rfl hcb kd_0_76 hl.1 rfl rfl (Nat.le_of_ble_eq_true rfl) ⟨Nat.le_of_ble_eq_true rfl, Nat.le_of_ble_eq_true rfl⟩ dL_law_612 (fun H locs hP hS => ?_)
  refine lv_aload_n hx hb dL_law_615 rfl (lv_at hl 2 rfl) ?_
  obtain ⟨r616, er616, h⟩ := bd_s1 h
  refine c_VI (k := 44) (ci := 10) (As := []) (rest := [.int r612.1]) hx hb hml hown hts hK hN hL hP hS (cX10_set_ l bs D y hcb n  r612.2.1 r612.2.2 r616 er616) ok_X10_set ov_X10_set ml_217 ⟨Nat.le_of_ble_eq_true rfl, Nat.le_of_ble_eq_true rfl⟩ rfl hcb kd_44_76 hl.1 rfl rfl (Nat.le_of_ble_eq_true rfl) ⟨Nat.le_of_ble_eq_true rfl, Nat.le_of_ble_eq_true rfl⟩ dL_law_616 (fun H locs hP hS => ?_)
  refine lv_icmp_eq (tgt := 1246) hx hb dL_law_619 (by decide) (fun c619 => ?_) (fun c619 => ?_)
  · replace h := if_t c619 h
    exact wL_law_1246 bs D y n L xs k18_ r Gc hk18_ x3 r616.2.1 r616.2.2 _ _ _ hP hS (lv_sub hl [0, 1, 2, 3] rfl) h
  · replace h := if_f c619 h
    refine lv_iconst (v := (0 : Int32)) hx hb dL_law_622 (by decide) ?_
    cases h
set_option maxHeartbeats 4000000 in
set_option maxRecDepth 100000 in
theorem wL_law_603 {p : Program} {l : Launch} {e : Env} {s : State} {m : MethodId} {b : Nat} {below : List Frame} {meth : Method} {c : Code} (bs : Nat) (D : va_G) (y : Y3) (n : Nat) (L : Nat) (xs : Nat → Int32) (k18_ : Int32 → MI → MJ → Option (Unit)) (r : Unit) (Gc : GL p s m meth c b L xs bs D y) (hk18_ : ∀ (x3 : Int32) (I : MI) (J : MJ) (H : Heap) (locs : List Loc) (ls : Array Slot), va_P D vwCl (wl bs y I J) H → va_S (FA bs) s.heap H locs → lv_has ls 4 [(0, .ref b), (1, .ref (bs + 0)), (2, .ref (bs + 44)), (3, .int x3)] → k18_ x3 I J = some r → W p l e room_1 s m #[Value.ref b] below meth c H locs 76 8771 (lw_Z below #[Value.ref b] s) (F0 m 18 ls [])) (x3 : Int32) (s0 : Int32) (s2 : Int32) (s3 : Int32) (I : MI) (J : MJ) (H : Heap) (locs : List Loc) (ls : Array Slot) (hP : va_P D vwCl (wl bs y I J) H) (hS : va_S (FA bs) s.heap H locs) (hl : lv_has ls 4 [(0, .ref b), (1, .ref (bs + 0)), (2, .ref (bs + 44)), (3, .int x3)]) (h : fL_law_603 n L xs k18_ x3 s0 s2 s3 I J = some r) : W p l e room_1 s m #[Value.ref b] below meth c H locs 76 8771 (lw_Z below #[Value.ref b] s) (F0 m 603 ls [.int s3, .int s2, .ref (bs + 44), .int s0]) := by
  obtain ⟨hx, hb, hml, hown, hts, hK, hN, hL, hr, hlocks, hcb, hX, hbl, hbs⟩ := id Gc
  have hbA : ¬ FA bs b := by rw [hbs]; exact Nat.not_le.mpr hbl
  unfold fL_law_603 at h
  obtain ⟨r603, er603, h⟩ := bd_s1 h
  refine c_VI (k := 44) (ci := 10) (As := [.int s2, .int s3]) (rest := [.int s0]) hx hb hml hown hts hK hN hL hP hS (cX10_broken_ l bs D y hcb n s2 s3 I J r603 er603) ok_X10_broken ov_X10_broken ml_218 ⟨Nat.le_of_ble_eq_true rfl, Nat.le_of_ble_eq_true rfl⟩ rfl hcb kd_44_76 hl.1 rfl rfl (Nat.le_of_ble_eq_true rfl) ⟨Nat.le_of_ble_eq_true rfl, Nat.le_of_ble_eq_true rfl⟩ dL_law_603 (fun H locs hP hS => ?_)
  refine lv_icmp_eq (tgt := 1246) hx hb dL_law_606 (by decide) (fun c606 => ?_) (fun c606 => ?_)
  · replace h := if_t c606 h
    exact wL_law_1246 bs D y n L xs k18_ r Gc hk18_ x3 r603.2.1 r603.2.2 _ _ _ hP hS (lv_sub hl [0, 1, 2, 3] rfl) h
  · replace h := if_f c606 h
    refine lv_iconst (v := (0 : Int32)) hx hb dL_law_609 (by decide) ?_
    cases h
set_option maxHeartbeats 4000000 in
set_option maxRecDepth 100000 in
theorem wL_law_581 {p : Program} {l : Launch} {e : Env} {s : State} {m : MethodId} {b : Nat} {below : List Frame} {meth : Method} {c : Code} (bs : Nat) (D : va_G) (y : Y3) (n : Nat) (L : Nat) (xs : Nat → Int32) (k18_ : Int32 → MI → MJ → Option (Unit)) (r : Unit) (Gc : GL p s m meth c b L xs bs D y) (hk18_ : ∀ (x3 : Int32) (I : MI) (J : MJ) (H : Heap) (locs : List Loc) (ls : Array Slot), va_P D vwCl (wl bs y I J) H → va_S (FA bs) s.heap H locs → lv_has ls 4 [(0, .ref b), (1, .ref (bs + 0)), (2, .ref (bs + 44)), (3, .int x3)] → k18_ x3 I J = some r → W p l e room_1 s m #[Value.ref b] below meth c H locs 76 8771 (lw_Z below #[Value.ref b] s) (F0 m 18 ls [])) (x3 : Int32) (s1 : Int32) (s2 : Int32) (I : MI) (J : MJ) (H : Heap) (locs : List Loc) (ls : Array Slot) (hP : va_P D vwCl (wl bs y I J) H) (hS : va_S (FA bs) s.heap H locs) (hl : lv_has ls 4 [(0, .ref b), (1, .ref (bs + 0)), (2, .ref (bs + 44)), (3, .int x3)]) (h : fL_law_581 n L xs k18_ x3 s1 s2 I J = some r) : W p l e room_1 s m #[Value.ref b] below meth c H locs 76 8771 (lw_Z below #[Value.ref b] s) (F0 m 581 ls [.int s2, .int s1, .ref (bs + 0)]) := by
  obtain ⟨hx, hb, hml, hown, hts, hK, hN, hL, hr, hlocks, hcb, hX, hbl, hbs⟩ := id Gc
  have hbA : ¬ FA bs b := by rw [hbs]; exact Nat.not_le.mpr hbl
  unfold fL_law_581 at h
  obtain ⟨r581, er581, h⟩ := bd_s1 h
  refine c_VI (k := 0) (ci := 9) (As := [.int s1, .int s2]) (rest := []) hx hb hml hown hts hK hN hL hP hS (cX9_broken_ l bs D y (Nat.le_trans (by decide) hcb) n s1 s2 I J r581 er581) ok_X9_broken ov_X9_broken ml_219 ⟨Nat.le_of_ble_eq_true rfl, Nat.le_of_ble_eq_true rfl⟩ rfl hcb kd_0_76 hl.1 rfl rfl (Nat.le_of_ble_eq_true rfl) ⟨Nat.le_of_ble_eq_true rfl, Nat.le_of_ble_eq_true rfl⟩ dL_law_581 (fun H locs hP hS => ?_)
  refine lv_aload_n hx hb dL_law_584 rfl (lv_at hl 2 rfl) ?_
  refine lv_aload_n hx hb dL_law_585 rfl (lv_at hl 0 rfl) ?_
  refine lv_iload_n hx hb dL_law_586 rfl (lv_at hl 3 rfl) ?_
  refine lv_iconst (v := (1 : Int32)) hx hb dL_law_587 (by decide) ?_
  refine lv_iadd hx hb dL_law_588 ?_
  obtain ⟨hi589, h⟩ := if_s1 h
  refine va_sld hx hb hX hbl hbA hS (inb_in hi589) dL_law_589 ?_
  refine lv_aload_n hx hb dL_law_590 rfl (lv_at hl 0 rfl) ?_
  refine lv_iload_n hx hb dL_law_591 rfl (lv_at hl 3 rfl) ?_
  refine lv_iconst (v := (2 : Int32)) hx hb dL_law_592 (by decide) ?_
  refine lv_iadd hx hb dL_law_593 ?_
  obtain ⟨hi594, h⟩ := if_s1 h
  refine va_sld hx hb hX hbl hbA hS (inb_in hi594) dL_law_594 ?_
  refine lv_if_eq (tgt := 602) hx hb dL_law_595 (by decide) (fun c595 => ?_) (fun c595 => ?_)
  · replace h := if_t c595 h
    refine lv_iconst (v := (0 : Int32)) hx hb dL_law_602 (by decide) ?_
    exact wL_law_603 bs D y n L xs k18_ r Gc hk18_ x3 r581.1 (xs ((x3 + (1 : Int32))).toNatClampNeg) (0 : Int32) r581.2.1 r581.2.2 _ _ _ hP hS (lv_sub hl [0, 1, 2, 3] rfl) h
  · replace h := if_f c595 h
    refine lv_iconst (v := (1 : Int32)) hx hb dL_law_598 (by decide) ?_
    refine lv_goto (tgt := 603) hx hb dL_law_599 (by decide) ?_
    exact wL_law_603 bs D y n L xs k18_ r Gc hk18_ x3 r581.1 (xs ((x3 + (1 : Int32))).toNatClampNeg) (1 : Int32) r581.2.1 r581.2.2 _ _ _ hP hS (lv_sub hl [0, 1, 2, 3] rfl) h
set_option maxHeartbeats 4000000 in
set_option maxRecDepth 100000 in
theorem wL_law_562 {p : Program} {l : Launch} {e : Env} {s : State} {m : MethodId} {b : Nat} {below : List Frame} {meth : Method} {c : Code} (bs : Nat) (D : va_G) (y : Y3) (n : Nat) (L : Nat) (xs : Nat → Int32) (k18_ : Int32 → MI → MJ → Option (Unit)) (r : Unit) (Gc : GL p s m meth c b L xs bs D y) (hk18_ : ∀ (x3 : Int32) (I : MI) (J : MJ) (H : Heap) (locs : List Loc) (ls : Array Slot), va_P D vwCl (wl bs y I J) H → va_S (FA bs) s.heap H locs → lv_has ls 4 [(0, .ref b), (1, .ref (bs + 0)), (2, .ref (bs + 44)), (3, .int x3)] → k18_ x3 I J = some r → W p l e room_1 s m #[Value.ref b] below meth c H locs 76 8771 (lw_Z below #[Value.ref b] s) (F0 m 18 ls [])) (x3 : Int32) (I : MI) (J : MJ) (H : Heap) (locs : List Loc) (ls : Array Slot) (hP : va_P D vwCl (wl bs y I J) H) (hS : va_S (FA bs) s.heap H locs) (hl : lv_has ls 4 [(0, .ref b), (1, .ref (bs + 0)), (2, .ref (bs + 44)), (3, .int x3)]) (h : fL_law_562 n L xs k18_ x3 I J = some r) : W p l e room_1 s m #[Value.ref b] below meth c H locs 76 8771 (lw_Z below #[Value.ref b] s) (F0 m 562 ls []) := by
  obtain ⟨hx, hb, hml, hown, hts, hK, hN, hL, hr, hlocks, hcb, hX, hbl, hbs⟩ := id Gc
  have hbA : ¬ FA bs b := by rw [hbs]; exact Nat.not_le.mpr hbl
  unfold fL_law_562 at h
  refine lv_aload_n hx hb dL_law_562 rfl (lv_at hl 1 rfl) ?_
  refine lv_aload_n hx hb dL_law_563 rfl (lv_at hl 0 rfl) ?_
  refine lv_iload_n hx hb dL_law_564 rfl (lv_at hl 3 rfl) ?_
  refine lv_iconst (v := (1 : Int32)) hx hb dL_law_565 (by decide) ?_
  refine lv_iadd hx hb dL_law_566 ?_
  obtain ⟨hi567, h⟩ := if_s1 h
  refine va_sld hx hb hX hbl hbA hS (inb_in hi567) dL_law_567 ?_
  refine lv_aload_n hx hb dL_law_568 rfl (lv_at hl 0 rfl) ?_
  refine lv_iload_n hx hb dL_law_569 rfl (lv_at hl 3 rfl) ?_
  refine lv_iconst (v := (2 : Int32)) hx hb dL_law_570 (by decide) ?_
  refine lv_iadd hx hb dL_law_571 ?_
  obtain ⟨hi572, h⟩ := if_s1 h
  refine va_sld hx hb hX hbl hbA hS (inb_in hi572) dL_law_572 ?_
  refine lv_if_eq (tgt := 580) hx hb dL_law_573 (by decide) (fun c573 => ?_) (fun c573 => ?_)
  · replace h := if_t c573 h
    refine lv_iconst (v := (0 : Int32)) hx hb dL_law_580 (by decide) ?_
    exact wL_law_581 bs D y n L xs k18_ r Gc hk18_ x3 (xs ((x3 + (1 : Int32))).toNatClampNeg) (0 : Int32) I J _ _ _ hP hS (lv_sub hl [0, 1, 2, 3] rfl) h
  · replace h := if_f c573 h
    refine lv_iconst (v := (1 : Int32)) hx hb dL_law_576 (by decide) ?_
    refine lv_goto (tgt := 581) hx hb dL_law_577 (by decide) ?_
    exact wL_law_581 bs D y n L xs k18_ r Gc hk18_ x3 (xs ((x3 + (1 : Int32))).toNatClampNeg) (1 : Int32) I J _ _ _ hP hS (lv_sub hl [0, 1, 2, 3] rfl) h
set_option maxHeartbeats 4000000 in
set_option maxRecDepth 100000 in
theorem wL_law_509 {p : Program} {l : Launch} {e : Env} {s : State} {m : MethodId} {b : Nat} {below : List Frame} {meth : Method} {c : Code} (bs : Nat) (D : va_G) (y : Y3) (n : Nat) (L : Nat) (xs : Nat → Int32) (k18_ : Int32 → MI → MJ → Option (Unit)) (r : Unit) (Gc : GL p s m meth c b L xs bs D y) (hk18_ : ∀ (x3 : Int32) (I : MI) (J : MJ) (H : Heap) (locs : List Loc) (ls : Array Slot), va_P D vwCl (wl bs y I J) H → va_S (FA bs) s.heap H locs → lv_has ls 4 [(0, .ref b), (1, .ref (bs + 0)), (2, .ref (bs + 44)), (3, .int x3)] → k18_ x3 I J = some r → W p l e room_1 s m #[Value.ref b] below meth c H locs 76 8771 (lw_Z below #[Value.ref b] s) (F0 m 18 ls [])) (x3 : Int32) (I : MI) (J : MJ) (H : Heap) (locs : List Loc) (ls : Array Slot) (hP : va_P D vwCl (wl bs y I J) H) (hS : va_S (FA bs) s.heap H locs) (hl : lv_has ls 4 [(0, .ref b), (1, .ref (bs + 0)), (2, .ref (bs + 44)), (3, .int x3)]) (h : fL_law_509 n L xs k18_ x3 I J = some r) : W p l e room_1 s m #[Value.ref b] below meth c H locs 76 8771 (lw_Z below #[Value.ref b] s) (F0 m 509 ls []) := by
  obtain ⟨hx, hb, hml, hown, hts, hK, hN, hL, hr, hlocks, hcb, hX, hbl, hbs⟩ := id Gc
  have hbA : ¬ FA bs b := by rw [hbs]; exact Nat.not_le.mpr hbl
  unfold fL_law_509 at h
  refine lv_aload_n hx hb dL_law_509 rfl (lv_at hl 1 rfl) ?_
  refine lv_aload_n hx hb dL_law_510 rfl (lv_at hl 0 rfl) ?_
  refine lv_iload_n hx hb dL_law_511 rfl (lv_at hl 3 rfl) ?_
  refine lv_iconst (v := (1 : Int32)) hx hb dL_law_512 (by decide) ?_
  refine lv_iadd hx hb dL_law_513 ?_
  obtain ⟨hi514, h⟩ := if_s1 h
  refine va_sld hx hb hX hbl hbA hS (inb_in hi514) dL_law_514 ?_
  refine lv_aload_n hx hb dL_law_515 rfl (lv_at hl 0 rfl) ?_
  refine lv_iload_n hx hb dL_law_516 rfl (lv_at hl 3 rfl) ?_
  refine lv_iconst (v := (2 : Int32)) hx hb dL_law_517 (by decide) ?_
  refine lv_iadd hx hb dL_law_518 ?_
  obtain ⟨hi519, h⟩ := if_s1 h
  refine va_sld hx hb hX hbl hbA hS (inb_in hi519) dL_law_519 ?_
  refine lv_aload_n hx hb dL_law_520 rfl (lv_at hl 0 rfl) ?_
  refine lv_iload_n hx hb dL_law_521 rfl (lv_at hl 3 rfl) ?_
  refine lv_iconst (v := (3 : Int32)) hx hb dL_law_522 (by decide) ?_
  refine lv_iadd hx hb dL_law_523 ?_
  obtain ⟨hi524, h⟩ := if_s1 h
  refine va_sld hx hb hX hbl hbA hS (inb_in hi524) dL_law_524 ?_
  refine lv_aload_n hx hb dL_law_525 rfl (lv_at hl 0 rfl) ?_
  refine lv_iload_n hx hb dL_law_526 rfl (lv_at hl 3 rfl) ?_
  refine lv_iconst (v := (4 : Int32)) hx hb dL_law_527 (by decide) ?_
  refine lv_iadd hx hb dL_law_528 ?_
  obtain ⟨hi529, h⟩ := if_s1 h
  refine va_sld hx hb hX hbl hbA hS (inb_in hi529) dL_law_529 ?_
  obtain ⟨r530, er530, h⟩ := bd_s1 h
  refine c_VI (k := 0) (ci := 9) (As := [.int (xs ((x3 + (1 : Int32))).toNatClampNeg), .int (xs ((x3 + (2 : Int32))).toNatClampNeg), .int (xs ((x3 + (3 : Int32))).toNatClampNeg), .int (xs ((x3 + (4 : Int32))).toNatClampNeg)]) (rest := []) hx hb hml hown hts hK hN hL hP hS (cX9_cloth_ l bs D y (Nat.le_trans (by decide) hcb) n (xs ((x3 + (1 : Int32))).toNatClampNeg) (xs ((x3 + (2 : Int32))).toNatClampNeg) (xs ((x3 + (3 : Int32))).toNatClampNeg) (xs ((x3 + (4 : Int32))).toNatClampNeg) I J r530 er530) ok_X9_cloth ov_X9_cloth ml_220 ⟨Nat.le_of_ble_eq_true rfl, Nat.le_of_ble_eq_true rfl⟩ rfl hcb kd_0_76 hl.1 rfl rfl (Nat.le_of_ble_eq_true rfl) ⟨Nat.le_of_ble_eq_true rfl, Nat.le_of_ble_eq_true rfl⟩ dL_law_530 (fun H locs hP hS => ?_)
  refine lv_aload_n hx hb dL_law_533 rfl (lv_at hl 2 rfl) ?_
  refine lv_aload_n hx hb dL_law_534 rfl (lv_at hl 0 rfl) ?_
  refine lv_iload_n hx hb dL_law_535 rfl (lv_at hl 3 rfl) ?_
  refine lv_iconst (v := (1 : Int32)) hx hb dL_law_536 (by decide) ?_
  refine lv_iadd hx hb dL_law_537 ?_
  obtain ⟨hi538, h⟩ := if_s1 h
  refine va_sld hx hb hX hbl hbA hS (inb_in hi538) dL_law_538 ?_
  refine lv_aload_n hx hb dL_law_539 rfl (lv_at hl 0 rfl) ?_
  refine lv_iload_n hx hb dL_law_540 rfl (lv_at hl 3 rfl) ?_
  refine lv_iconst (v := (2 : Int32)) hx hb dL_law_541 (by decide) ?_
  refine lv_iadd hx hb dL_law_542 ?_
  obtain ⟨hi543, h⟩ := if_s1 h
  refine va_sld hx hb hX hbl hbA hS (inb_in hi543) dL_law_543 ?_
  refine lv_aload_n hx hb dL_law_544 rfl (lv_at hl 0 rfl) ?_
  refine lv_iload_n hx hb dL_law_545 rfl (lv_at hl 3 rfl) ?_
  refine lv_iconst (v := (3 : Int32)) hx hb dL_law_546 (by decide) ?_
  refine lv_iadd hx hb dL_law_547 ?_
  obtain ⟨hi548, h⟩ := if_s1 h
  refine va_sld hx hb hX hbl hbA hS (inb_in hi548) dL_law_548 ?_
  refine lv_aload_n hx hb dL_law_549 rfl (lv_at hl 0 rfl) ?_
  refine lv_iload_n hx hb dL_law_550 rfl (lv_at hl 3 rfl) ?_
  refine lv_iconst (v := (4 : Int32)) hx hb dL_law_551 (by decide) ?_
  refine lv_iadd hx hb dL_law_552 ?_
  obtain ⟨hi553, h⟩ := if_s1 h
  refine va_sld hx hb hX hbl hbA hS (inb_in hi553) dL_law_553 ?_
  obtain ⟨r554, er554, h⟩ := bd_s1 h
  refine c_VI (k := 44) (ci := 10) (As := [.int (xs ((x3 + (1 : Int32))).toNatClampNeg), .int (xs ((x3 + (2 : Int32))).toNatClampNeg), .int (xs ((x3 + (3 : Int32))).toNatClampNeg), .int (xs ((x3 + (4 : Int32))).toNatClampNeg)]) (rest := [.int r530.1]) hx hb hml hown hts hK hN hL hP hS (cX10_cloth_ l bs D y hcb n (xs ((x3 + (1 : Int32))).toNatClampNeg) (xs ((x3 + (2 : Int32))).toNatClampNeg) (xs ((x3 + (3 : Int32))).toNatClampNeg) (xs ((x3 + (4 : Int32))).toNatClampNeg) r530.2.1 r530.2.2 r554 er554) ok_X10_cloth ov_X10_cloth ml_221 ⟨Nat.le_of_ble_eq_true rfl, Nat.le_of_ble_eq_true rfl⟩ rfl hcb kd_44_76 hl.1 rfl rfl (Nat.le_of_ble_eq_true rfl) ⟨Nat.le_of_ble_eq_true rfl, Nat.le_of_ble_eq_true rfl⟩ dL_law_554 (fun H locs hP hS => ?_)
  refine lv_icmp_eq (tgt := 1246) hx hb dL_law_557 (by decide) (fun c557 => ?_) (fun c557 => ?_)
  · replace h := if_t c557 h
    exact wL_law_1246 bs D y n L xs k18_ r Gc hk18_ x3 r554.2.1 r554.2.2 _ _ _ hP hS (lv_sub hl [0, 1, 2, 3] rfl) h
  · replace h := if_f c557 h
    refine lv_iconst (v := (0 : Int32)) hx hb dL_law_560 (by decide) ?_
    cases h
set_option maxHeartbeats 4000000 in
set_option maxRecDepth 100000 in
theorem wL_law_476 {p : Program} {l : Launch} {e : Env} {s : State} {m : MethodId} {b : Nat} {below : List Frame} {meth : Method} {c : Code} (bs : Nat) (D : va_G) (y : Y3) (n : Nat) (L : Nat) (xs : Nat → Int32) (k18_ : Int32 → MI → MJ → Option (Unit)) (r : Unit) (Gc : GL p s m meth c b L xs bs D y) (hk18_ : ∀ (x3 : Int32) (I : MI) (J : MJ) (H : Heap) (locs : List Loc) (ls : Array Slot), va_P D vwCl (wl bs y I J) H → va_S (FA bs) s.heap H locs → lv_has ls 4 [(0, .ref b), (1, .ref (bs + 0)), (2, .ref (bs + 44)), (3, .int x3)] → k18_ x3 I J = some r → W p l e room_1 s m #[Value.ref b] below meth c H locs 76 8771 (lw_Z below #[Value.ref b] s) (F0 m 18 ls [])) (x3 : Int32) (I : MI) (J : MJ) (H : Heap) (locs : List Loc) (ls : Array Slot) (hP : va_P D vwCl (wl bs y I J) H) (hS : va_S (FA bs) s.heap H locs) (hl : lv_has ls 4 [(0, .ref b), (1, .ref (bs + 0)), (2, .ref (bs + 44)), (3, .int x3)]) (h : fL_law_476 n L xs k18_ x3 I J = some r) : W p l e room_1 s m #[Value.ref b] below meth c H locs 76 8771 (lw_Z below #[Value.ref b] s) (F0 m 476 ls []) := by
  obtain ⟨hx, hb, hml, hown, hts, hK, hN, hL, hr, hlocks, hcb, hX, hbl, hbs⟩ := id Gc
  have hbA : ¬ FA bs b := by rw [hbs]; exact Nat.not_le.mpr hbl
  unfold fL_law_476 at h
  refine lv_aload_n hx hb dL_law_476 rfl (lv_at hl 1 rfl) ?_
  refine lv_aload_n hx hb dL_law_477 rfl (lv_at hl 0 rfl) ?_
  refine lv_iload_n hx hb dL_law_478 rfl (lv_at hl 3 rfl) ?_
  refine lv_iconst (v := (1 : Int32)) hx hb dL_law_479 (by decide) ?_
  refine lv_iadd hx hb dL_law_480 ?_
  obtain ⟨hi481, h⟩ := if_s1 h
  refine va_sld hx hb hX hbl hbA hS (inb_in hi481) dL_law_481 ?_
  refine lv_aload_n hx hb dL_law_482 rfl (lv_at hl 0 rfl) ?_
  refine lv_iload_n hx hb dL_law_483 rfl (lv_at hl 3 rfl) ?_
  refine lv_iconst (v := (2 : Int32)) hx hb dL_law_484 (by decide) ?_
  refine lv_iadd hx hb dL_law_485 ?_
  obtain ⟨hi486, h⟩ := if_s1 h
  refine va_sld hx hb hX hbl hbA hS (inb_in hi486) dL_law_486 ?_
  obtain ⟨r487, er487, h⟩ := bd_s1 h
  refine c_VI (k := 0) (ci := 9) (As := [.int (xs ((x3 + (1 : Int32))).toNatClampNeg), .int (xs ((x3 + (2 : Int32))).toNatClampNeg)]) (rest := []) hx hb hml hown hts hK hN hL hP hS (cX9_table_ l bs D y (Nat.le_trans (by decide) hcb) n (xs ((x3 + (1 : Int32))).toNatClampNeg) (xs ((x3 + (2 : Int32))).toNatClampNeg) I J r487 er487) ok_X9_table ov_X9_table ml_222 ⟨Nat.le_of_ble_eq_true rfl, Nat.le_of_ble_eq_true rfl⟩ rfl hcb kd_0_76 hl.1 rfl rfl (Nat.le_of_ble_eq_true rfl) ⟨Nat.le_of_ble_eq_true rfl, Nat.le_of_ble_eq_true rfl⟩ dL_law_487 (fun H locs hP hS => ?_)
  refine lv_aload_n hx hb dL_law_490 rfl (lv_at hl 2 rfl) ?_
  refine lv_aload_n hx hb dL_law_491 rfl (lv_at hl 0 rfl) ?_
  refine lv_iload_n hx hb dL_law_492 rfl (lv_at hl 3 rfl) ?_
  refine lv_iconst (v := (1 : Int32)) hx hb dL_law_493 (by decide) ?_
  refine lv_iadd hx hb dL_law_494 ?_
  obtain ⟨hi495, h⟩ := if_s1 h
  refine va_sld hx hb hX hbl hbA hS (inb_in hi495) dL_law_495 ?_
  refine lv_aload_n hx hb dL_law_496 rfl (lv_at hl 0 rfl) ?_
  refine lv_iload_n hx hb dL_law_497 rfl (lv_at hl 3 rfl) ?_
  refine lv_iconst (v := (2 : Int32)) hx hb dL_law_498 (by decide) ?_
  refine lv_iadd hx hb dL_law_499 ?_
  obtain ⟨hi500, h⟩ := if_s1 h
  refine va_sld hx hb hX hbl hbA hS (inb_in hi500) dL_law_500 ?_
  obtain ⟨r501, er501, h⟩ := bd_s1 h
  refine c_VI (k := 44) (ci := 10) (As := [.int (xs ((x3 + (1 : Int32))).toNatClampNeg), .int (xs ((x3 + (2 : Int32))).toNatClampNeg)]) (rest := [.int r487.1]) hx hb hml hown hts hK hN hL hP hS (cX10_table_ l bs D y hcb n (xs ((x3 + (1 : Int32))).toNatClampNeg) (xs ((x3 + (2 : Int32))).toNatClampNeg) r487.2.1 r487.2.2 r501 er501) ok_X10_table ov_X10_table ml_223 ⟨Nat.le_of_ble_eq_true rfl, Nat.le_of_ble_eq_true rfl⟩ rfl hcb kd_44_76 hl.1 rfl rfl (Nat.le_of_ble_eq_true rfl) ⟨Nat.le_of_ble_eq_true rfl, Nat.le_of_ble_eq_true rfl⟩ dL_law_501 (fun H locs hP hS => ?_)
  refine lv_icmp_eq (tgt := 1246) hx hb dL_law_504 (by decide) (fun c504 => ?_) (fun c504 => ?_)
  · replace h := if_t c504 h
    exact wL_law_1246 bs D y n L xs k18_ r Gc hk18_ x3 r501.2.1 r501.2.2 _ _ _ hP hS (lv_sub hl [0, 1, 2, 3] rfl) h
  · replace h := if_f c504 h
    refine lv_iconst (v := (0 : Int32)) hx hb dL_law_507 (by decide) ?_
    cases h
set_option maxHeartbeats 4000000 in
set_option maxRecDepth 100000 in
theorem wL_law_463 {p : Program} {l : Launch} {e : Env} {s : State} {m : MethodId} {b : Nat} {below : List Frame} {meth : Method} {c : Code} (bs : Nat) (D : va_G) (y : Y3) (n : Nat) (L : Nat) (xs : Nat → Int32) (k18_ : Int32 → MI → MJ → Option (Unit)) (r : Unit) (Gc : GL p s m meth c b L xs bs D y) (hk18_ : ∀ (x3 : Int32) (I : MI) (J : MJ) (H : Heap) (locs : List Loc) (ls : Array Slot), va_P D vwCl (wl bs y I J) H → va_S (FA bs) s.heap H locs → lv_has ls 4 [(0, .ref b), (1, .ref (bs + 0)), (2, .ref (bs + 44)), (3, .int x3)] → k18_ x3 I J = some r → W p l e room_1 s m #[Value.ref b] below meth c H locs 76 8771 (lw_Z below #[Value.ref b] s) (F0 m 18 ls [])) (x3 : Int32) (I : MI) (J : MJ) (H : Heap) (locs : List Loc) (ls : Array Slot) (hP : va_P D vwCl (wl bs y I J) H) (hS : va_S (FA bs) s.heap H locs) (hl : lv_has ls 4 [(0, .ref b), (1, .ref (bs + 0)), (2, .ref (bs + 44)), (3, .int x3)]) (h : fL_law_463 n L xs k18_ x3 I J = some r) : W p l e room_1 s m #[Value.ref b] below meth c H locs 76 8771 (lw_Z below #[Value.ref b] s) (F0 m 463 ls []) := by
  obtain ⟨hx, hb, hml, hown, hts, hK, hN, hL, hr, hlocks, hcb, hX, hbl, hbs⟩ := id Gc
  have hbA : ¬ FA bs b := by rw [hbs]; exact Nat.not_le.mpr hbl
  unfold fL_law_463 at h
  refine lv_aload_n hx hb dL_law_463 rfl (lv_at hl 1 rfl) ?_
  obtain ⟨r464, er464, h⟩ := bd_s1 h
  refine c_VI (k := 0) (ci := 9) (As := []) (rest := []) hx hb hml hown hts hK hN hL hP hS (cX9_tables_ l bs D y (Nat.le_trans (by decide) hcb) n  I J r464 er464) ok_X9_tables ov_X9_tables ml_224 ⟨Nat.le_of_ble_eq_true rfl, Nat.le_of_ble_eq_true rfl⟩ rfl hcb kd_0_76 hl.1 rfl rfl (Nat.le_of_ble_eq_true rfl) ⟨Nat.le_of_ble_eq_true rfl, Nat.le_of_ble_eq_true rfl⟩ dL_law_464 (fun H locs hP hS => ?_)
  refine lv_aload_n hx hb dL_law_467 rfl (lv_at hl 2 rfl) ?_
  obtain ⟨r468, er468, h⟩ := bd_s1 h
  refine c_VI (k := 44) (ci := 10) (As := []) (rest := [.int r464.1]) hx hb hml hown hts hK hN hL hP hS (cX10_tables_ l bs D y hcb n  r464.2.1 r464.2.2 r468 er468) ok_X10_tables ov_X10_tables ml_225 ⟨Nat.le_of_ble_eq_true rfl, Nat.le_of_ble_eq_true rfl⟩ rfl hcb kd_44_76 hl.1 rfl rfl (Nat.le_of_ble_eq_true rfl) ⟨Nat.le_of_ble_eq_true rfl, Nat.le_of_ble_eq_true rfl⟩ dL_law_468 (fun H locs hP hS => ?_)
  refine lv_icmp_eq (tgt := 1246) hx hb dL_law_471 (by decide) (fun c471 => ?_) (fun c471 => ?_)
  · replace h := if_t c471 h
    exact wL_law_1246 bs D y n L xs k18_ r Gc hk18_ x3 r468.2.1 r468.2.2 _ _ _ hP hS (lv_sub hl [0, 1, 2, 3] rfl) h
  · replace h := if_f c471 h
    refine lv_iconst (v := (0 : Int32)) hx hb dL_law_474 (by decide) ?_
    cases h
set_option maxHeartbeats 4000000 in
set_option maxRecDepth 100000 in
theorem wL_law_440 {p : Program} {l : Launch} {e : Env} {s : State} {m : MethodId} {b : Nat} {below : List Frame} {meth : Method} {c : Code} (bs : Nat) (D : va_G) (y : Y3) (n : Nat) (L : Nat) (xs : Nat → Int32) (k18_ : Int32 → MI → MJ → Option (Unit)) (r : Unit) (Gc : GL p s m meth c b L xs bs D y) (hk18_ : ∀ (x3 : Int32) (I : MI) (J : MJ) (H : Heap) (locs : List Loc) (ls : Array Slot), va_P D vwCl (wl bs y I J) H → va_S (FA bs) s.heap H locs → lv_has ls 4 [(0, .ref b), (1, .ref (bs + 0)), (2, .ref (bs + 44)), (3, .int x3)] → k18_ x3 I J = some r → W p l e room_1 s m #[Value.ref b] below meth c H locs 76 8771 (lw_Z below #[Value.ref b] s) (F0 m 18 ls [])) (x3 : Int32) (I : MI) (J : MJ) (H : Heap) (locs : List Loc) (ls : Array Slot) (hP : va_P D vwCl (wl bs y I J) H) (hS : va_S (FA bs) s.heap H locs) (hl : lv_has ls 4 [(0, .ref b), (1, .ref (bs + 0)), (2, .ref (bs + 44)), (3, .int x3)]) (h : fL_law_440 n L xs k18_ x3 I J = some r) : W p l e room_1 s m #[Value.ref b] below meth c H locs 76 8771 (lw_Z below #[Value.ref b] s) (F0 m 440 ls []) := by
  obtain ⟨hx, hb, hml, hown, hts, hK, hN, hL, hr, hlocks, hcb, hX, hbl, hbs⟩ := id Gc
  have hbA : ¬ FA bs b := by rw [hbs]; exact Nat.not_le.mpr hbl
  unfold fL_law_440 at h
  refine lv_aload_n hx hb dL_law_440 rfl (lv_at hl 1 rfl) ?_
  refine lv_aload_n hx hb dL_law_441 rfl (lv_at hl 0 rfl) ?_
  refine lv_iload_n hx hb dL_law_442 rfl (lv_at hl 3 rfl) ?_
  refine lv_iconst (v := (1 : Int32)) hx hb dL_law_443 (by decide) ?_
  refine lv_iadd hx hb dL_law_444 ?_
  obtain ⟨hi445, h⟩ := if_s1 h
  refine va_sld hx hb hX hbl hbA hS (inb_in hi445) dL_law_445 ?_
  obtain ⟨r446, er446, h⟩ := bd_s1 h
  refine c_VI (k := 0) (ci := 9) (As := [.int (xs ((x3 + (1 : Int32))).toNatClampNeg)]) (rest := []) hx hb hml hown hts hK hN hL hP hS (cX9_depth_ l bs D y (Nat.le_trans (by decide) hcb) n (xs ((x3 + (1 : Int32))).toNatClampNeg) I J r446 er446) ok_X9_depth ov_X9_depth ml_226 ⟨Nat.le_of_ble_eq_true rfl, Nat.le_of_ble_eq_true rfl⟩ rfl hcb kd_0_76 hl.1 rfl rfl (Nat.le_of_ble_eq_true rfl) ⟨Nat.le_of_ble_eq_true rfl, Nat.le_of_ble_eq_true rfl⟩ dL_law_446 (fun H locs hP hS => ?_)
  refine lv_aload_n hx hb dL_law_449 rfl (lv_at hl 2 rfl) ?_
  refine lv_aload_n hx hb dL_law_450 rfl (lv_at hl 0 rfl) ?_
  refine lv_iload_n hx hb dL_law_451 rfl (lv_at hl 3 rfl) ?_
  refine lv_iconst (v := (1 : Int32)) hx hb dL_law_452 (by decide) ?_
  refine lv_iadd hx hb dL_law_453 ?_
  obtain ⟨hi454, h⟩ := if_s1 h
  refine va_sld hx hb hX hbl hbA hS (inb_in hi454) dL_law_454 ?_
  obtain ⟨r455, er455, h⟩ := bd_s1 h
  refine c_VI (k := 44) (ci := 10) (As := [.int (xs ((x3 + (1 : Int32))).toNatClampNeg)]) (rest := [.int r446.1]) hx hb hml hown hts hK hN hL hP hS (cX10_depth_ l bs D y hcb n (xs ((x3 + (1 : Int32))).toNatClampNeg) r446.2.1 r446.2.2 r455 er455) ok_X10_depth ov_X10_depth ml_227 ⟨Nat.le_of_ble_eq_true rfl, Nat.le_of_ble_eq_true rfl⟩ rfl hcb kd_44_76 hl.1 rfl rfl (Nat.le_of_ble_eq_true rfl) ⟨Nat.le_of_ble_eq_true rfl, Nat.le_of_ble_eq_true rfl⟩ dL_law_455 (fun H locs hP hS => ?_)
  refine lv_icmp_eq (tgt := 1246) hx hb dL_law_458 (by decide) (fun c458 => ?_) (fun c458 => ?_)
  · replace h := if_t c458 h
    exact wL_law_1246 bs D y n L xs k18_ r Gc hk18_ x3 r455.2.1 r455.2.2 _ _ _ hP hS (lv_sub hl [0, 1, 2, 3] rfl) h
  · replace h := if_f c458 h
    refine lv_iconst (v := (0 : Int32)) hx hb dL_law_461 (by decide) ?_
    cases h
set_option maxHeartbeats 4000000 in
set_option maxRecDepth 100000 in
theorem wL_law_407 {p : Program} {l : Launch} {e : Env} {s : State} {m : MethodId} {b : Nat} {below : List Frame} {meth : Method} {c : Code} (bs : Nat) (D : va_G) (y : Y3) (n : Nat) (L : Nat) (xs : Nat → Int32) (k18_ : Int32 → MI → MJ → Option (Unit)) (r : Unit) (Gc : GL p s m meth c b L xs bs D y) (hk18_ : ∀ (x3 : Int32) (I : MI) (J : MJ) (H : Heap) (locs : List Loc) (ls : Array Slot), va_P D vwCl (wl bs y I J) H → va_S (FA bs) s.heap H locs → lv_has ls 4 [(0, .ref b), (1, .ref (bs + 0)), (2, .ref (bs + 44)), (3, .int x3)] → k18_ x3 I J = some r → W p l e room_1 s m #[Value.ref b] below meth c H locs 76 8771 (lw_Z below #[Value.ref b] s) (F0 m 18 ls [])) (x3 : Int32) (I : MI) (J : MJ) (H : Heap) (locs : List Loc) (ls : Array Slot) (hP : va_P D vwCl (wl bs y I J) H) (hS : va_S (FA bs) s.heap H locs) (hl : lv_has ls 4 [(0, .ref b), (1, .ref (bs + 0)), (2, .ref (bs + 44)), (3, .int x3)]) (h : fL_law_407 n L xs k18_ x3 I J = some r) : W p l e room_1 s m #[Value.ref b] below meth c H locs 76 8771 (lw_Z below #[Value.ref b] s) (F0 m 407 ls []) := by
  obtain ⟨hx, hb, hml, hown, hts, hK, hN, hL, hr, hlocks, hcb, hX, hbl, hbs⟩ := id Gc
  have hbA : ¬ FA bs b := by rw [hbs]; exact Nat.not_le.mpr hbl
  unfold fL_law_407 at h
  refine lv_aload_n hx hb dL_law_407 rfl (lv_at hl 1 rfl) ?_
  refine lv_aload_n hx hb dL_law_408 rfl (lv_at hl 0 rfl) ?_
  refine lv_iload_n hx hb dL_law_409 rfl (lv_at hl 3 rfl) ?_
  refine lv_iconst (v := (1 : Int32)) hx hb dL_law_410 (by decide) ?_
  refine lv_iadd hx hb dL_law_411 ?_
  obtain ⟨hi412, h⟩ := if_s1 h
  refine va_sld hx hb hX hbl hbA hS (inb_in hi412) dL_law_412 ?_
  refine lv_aload_n hx hb dL_law_413 rfl (lv_at hl 0 rfl) ?_
  refine lv_iload_n hx hb dL_law_414 rfl (lv_at hl 3 rfl) ?_
  refine lv_iconst (v := (2 : Int32)) hx hb dL_law_415 (by decide) ?_
  refine lv_iadd hx hb dL_law_416 ?_
  obtain ⟨hi417, h⟩ := if_s1 h
  refine va_sld hx hb hX hbl hbA hS (inb_in hi417) dL_law_417 ?_
  obtain ⟨r418, er418, h⟩ := bd_s1 h
  refine c_VI (k := 0) (ci := 9) (As := [.int (xs ((x3 + (1 : Int32))).toNatClampNeg), .int (xs ((x3 + (2 : Int32))).toNatClampNeg)]) (rest := []) hx hb hml hown hts hK hN hL hP hS (cX9_cut_ l bs D y (Nat.le_trans (by decide) hcb) n (xs ((x3 + (1 : Int32))).toNatClampNeg) (xs ((x3 + (2 : Int32))).toNatClampNeg) I J r418 er418) ok_X9_cut ov_X9_cut ml_228 ⟨Nat.le_of_ble_eq_true rfl, Nat.le_of_ble_eq_true rfl⟩ rfl hcb kd_0_76 hl.1 rfl rfl (Nat.le_of_ble_eq_true rfl) ⟨Nat.le_of_ble_eq_true rfl, Nat.le_of_ble_eq_true rfl⟩ dL_law_418 (fun H locs hP hS => ?_)
  refine lv_aload_n hx hb dL_law_421 rfl (lv_at hl 2 rfl) ?_
  refine lv_aload_n hx hb dL_law_422 rfl (lv_at hl 0 rfl) ?_
  refine lv_iload_n hx hb dL_law_423 rfl (lv_at hl 3 rfl) ?_
  refine lv_iconst (v := (1 : Int32)) hx hb dL_law_424 (by decide) ?_
  refine lv_iadd hx hb dL_law_425 ?_
  obtain ⟨hi426, h⟩ := if_s1 h
  refine va_sld hx hb hX hbl hbA hS (inb_in hi426) dL_law_426 ?_
  refine lv_aload_n hx hb dL_law_427 rfl (lv_at hl 0 rfl) ?_
  refine lv_iload_n hx hb dL_law_428 rfl (lv_at hl 3 rfl) ?_
  refine lv_iconst (v := (2 : Int32)) hx hb dL_law_429 (by decide) ?_
  refine lv_iadd hx hb dL_law_430 ?_
  obtain ⟨hi431, h⟩ := if_s1 h
  refine va_sld hx hb hX hbl hbA hS (inb_in hi431) dL_law_431 ?_
  obtain ⟨r432, er432, h⟩ := bd_s1 h
  refine c_VI (k := 44) (ci := 10) (As := [.int (xs ((x3 + (1 : Int32))).toNatClampNeg), .int (xs ((x3 + (2 : Int32))).toNatClampNeg)]) (rest := [.int r418.1]) hx hb hml hown hts hK hN hL hP hS (cX10_cut_ l bs D y hcb n (xs ((x3 + (1 : Int32))).toNatClampNeg) (xs ((x3 + (2 : Int32))).toNatClampNeg) r418.2.1 r418.2.2 r432 er432) ok_X10_cut ov_X10_cut ml_229 ⟨Nat.le_of_ble_eq_true rfl, Nat.le_of_ble_eq_true rfl⟩ rfl hcb kd_44_76 hl.1 rfl rfl (Nat.le_of_ble_eq_true rfl) ⟨Nat.le_of_ble_eq_true rfl, Nat.le_of_ble_eq_true rfl⟩ dL_law_432 (fun H locs hP hS => ?_)
  refine lv_icmp_eq (tgt := 1246) hx hb dL_law_435 (by decide) (fun c435 => ?_) (fun c435 => ?_)
  · replace h := if_t c435 h
    exact wL_law_1246 bs D y n L xs k18_ r Gc hk18_ x3 r432.2.1 r432.2.2 _ _ _ hP hS (lv_sub hl [0, 1, 2, 3] rfl) h
  · replace h := if_f c435 h
    refine lv_iconst (v := (0 : Int32)) hx hb dL_law_438 (by decide) ?_
    cases h
set_option maxHeartbeats 4000000 in
set_option maxRecDepth 100000 in
theorem wL_law_384 {p : Program} {l : Launch} {e : Env} {s : State} {m : MethodId} {b : Nat} {below : List Frame} {meth : Method} {c : Code} (bs : Nat) (D : va_G) (y : Y3) (n : Nat) (L : Nat) (xs : Nat → Int32) (k18_ : Int32 → MI → MJ → Option (Unit)) (r : Unit) (Gc : GL p s m meth c b L xs bs D y) (hk18_ : ∀ (x3 : Int32) (I : MI) (J : MJ) (H : Heap) (locs : List Loc) (ls : Array Slot), va_P D vwCl (wl bs y I J) H → va_S (FA bs) s.heap H locs → lv_has ls 4 [(0, .ref b), (1, .ref (bs + 0)), (2, .ref (bs + 44)), (3, .int x3)] → k18_ x3 I J = some r → W p l e room_1 s m #[Value.ref b] below meth c H locs 76 8771 (lw_Z below #[Value.ref b] s) (F0 m 18 ls [])) (x3 : Int32) (I : MI) (J : MJ) (H : Heap) (locs : List Loc) (ls : Array Slot) (hP : va_P D vwCl (wl bs y I J) H) (hS : va_S (FA bs) s.heap H locs) (hl : lv_has ls 4 [(0, .ref b), (1, .ref (bs + 0)), (2, .ref (bs + 44)), (3, .int x3)]) (h : fL_law_384 n L xs k18_ x3 I J = some r) : W p l e room_1 s m #[Value.ref b] below meth c H locs 76 8771 (lw_Z below #[Value.ref b] s) (F0 m 384 ls []) := by
  obtain ⟨hx, hb, hml, hown, hts, hK, hN, hL, hr, hlocks, hcb, hX, hbl, hbs⟩ := id Gc
  have hbA : ¬ FA bs b := by rw [hbs]; exact Nat.not_le.mpr hbl
  unfold fL_law_384 at h
  refine lv_aload_n hx hb dL_law_384 rfl (lv_at hl 1 rfl) ?_
  refine lv_aload_n hx hb dL_law_385 rfl (lv_at hl 0 rfl) ?_
  refine lv_iload_n hx hb dL_law_386 rfl (lv_at hl 3 rfl) ?_
  refine lv_iconst (v := (1 : Int32)) hx hb dL_law_387 (by decide) ?_
  refine lv_iadd hx hb dL_law_388 ?_
  obtain ⟨hi389, h⟩ := if_s1 h
  refine va_sld hx hb hX hbl hbA hS (inb_in hi389) dL_law_389 ?_
  obtain ⟨r390, er390, h⟩ := bd_s1 h
  refine c_VI (k := 0) (ci := 9) (As := [.int (xs ((x3 + (1 : Int32))).toNatClampNeg)]) (rest := []) hx hb hml hown hts hK hN hL hP hS (cX9_cuts_ l bs D y (Nat.le_trans (by decide) hcb) n (xs ((x3 + (1 : Int32))).toNatClampNeg) I J r390 er390) ok_X9_cuts ov_X9_cuts ml_230 ⟨Nat.le_of_ble_eq_true rfl, Nat.le_of_ble_eq_true rfl⟩ rfl hcb kd_0_76 hl.1 rfl rfl (Nat.le_of_ble_eq_true rfl) ⟨Nat.le_of_ble_eq_true rfl, Nat.le_of_ble_eq_true rfl⟩ dL_law_390 (fun H locs hP hS => ?_)
  refine lv_aload_n hx hb dL_law_393 rfl (lv_at hl 2 rfl) ?_
  refine lv_aload_n hx hb dL_law_394 rfl (lv_at hl 0 rfl) ?_
  refine lv_iload_n hx hb dL_law_395 rfl (lv_at hl 3 rfl) ?_
  refine lv_iconst (v := (1 : Int32)) hx hb dL_law_396 (by decide) ?_
  refine lv_iadd hx hb dL_law_397 ?_
  obtain ⟨hi398, h⟩ := if_s1 h
  refine va_sld hx hb hX hbl hbA hS (inb_in hi398) dL_law_398 ?_
  obtain ⟨r399, er399, h⟩ := bd_s1 h
  refine c_VI (k := 44) (ci := 10) (As := [.int (xs ((x3 + (1 : Int32))).toNatClampNeg)]) (rest := [.int r390.1]) hx hb hml hown hts hK hN hL hP hS (cX10_cuts_ l bs D y hcb n (xs ((x3 + (1 : Int32))).toNatClampNeg) r390.2.1 r390.2.2 r399 er399) ok_X10_cuts ov_X10_cuts ml_231 ⟨Nat.le_of_ble_eq_true rfl, Nat.le_of_ble_eq_true rfl⟩ rfl hcb kd_44_76 hl.1 rfl rfl (Nat.le_of_ble_eq_true rfl) ⟨Nat.le_of_ble_eq_true rfl, Nat.le_of_ble_eq_true rfl⟩ dL_law_399 (fun H locs hP hS => ?_)
  refine lv_icmp_eq (tgt := 1246) hx hb dL_law_402 (by decide) (fun c402 => ?_) (fun c402 => ?_)
  · replace h := if_t c402 h
    exact wL_law_1246 bs D y n L xs k18_ r Gc hk18_ x3 r399.2.1 r399.2.2 _ _ _ hP hS (lv_sub hl [0, 1, 2, 3] rfl) h
  · replace h := if_f c402 h
    refine lv_iconst (v := (0 : Int32)) hx hb dL_law_405 (by decide) ?_
    cases h
set_option maxHeartbeats 4000000 in
set_option maxRecDepth 100000 in
theorem wL_law_351 {p : Program} {l : Launch} {e : Env} {s : State} {m : MethodId} {b : Nat} {below : List Frame} {meth : Method} {c : Code} (bs : Nat) (D : va_G) (y : Y3) (n : Nat) (L : Nat) (xs : Nat → Int32) (k18_ : Int32 → MI → MJ → Option (Unit)) (r : Unit) (Gc : GL p s m meth c b L xs bs D y) (hk18_ : ∀ (x3 : Int32) (I : MI) (J : MJ) (H : Heap) (locs : List Loc) (ls : Array Slot), va_P D vwCl (wl bs y I J) H → va_S (FA bs) s.heap H locs → lv_has ls 4 [(0, .ref b), (1, .ref (bs + 0)), (2, .ref (bs + 44)), (3, .int x3)] → k18_ x3 I J = some r → W p l e room_1 s m #[Value.ref b] below meth c H locs 76 8771 (lw_Z below #[Value.ref b] s) (F0 m 18 ls [])) (x3 : Int32) (I : MI) (J : MJ) (H : Heap) (locs : List Loc) (ls : Array Slot) (hP : va_P D vwCl (wl bs y I J) H) (hS : va_S (FA bs) s.heap H locs) (hl : lv_has ls 4 [(0, .ref b), (1, .ref (bs + 0)), (2, .ref (bs + 44)), (3, .int x3)]) (h : fL_law_351 n L xs k18_ x3 I J = some r) : W p l e room_1 s m #[Value.ref b] below meth c H locs 76 8771 (lw_Z below #[Value.ref b] s) (F0 m 351 ls []) := by
  obtain ⟨hx, hb, hml, hown, hts, hK, hN, hL, hr, hlocks, hcb, hX, hbl, hbs⟩ := id Gc
  have hbA : ¬ FA bs b := by rw [hbs]; exact Nat.not_le.mpr hbl
  unfold fL_law_351 at h
  refine lv_aload_n hx hb dL_law_351 rfl (lv_at hl 1 rfl) ?_
  refine lv_aload_n hx hb dL_law_352 rfl (lv_at hl 0 rfl) ?_
  refine lv_iload_n hx hb dL_law_353 rfl (lv_at hl 3 rfl) ?_
  refine lv_iconst (v := (1 : Int32)) hx hb dL_law_354 (by decide) ?_
  refine lv_iadd hx hb dL_law_355 ?_
  obtain ⟨hi356, h⟩ := if_s1 h
  refine va_sld hx hb hX hbl hbA hS (inb_in hi356) dL_law_356 ?_
  refine lv_aload_n hx hb dL_law_357 rfl (lv_at hl 0 rfl) ?_
  refine lv_iload_n hx hb dL_law_358 rfl (lv_at hl 3 rfl) ?_
  refine lv_iconst (v := (2 : Int32)) hx hb dL_law_359 (by decide) ?_
  refine lv_iadd hx hb dL_law_360 ?_
  obtain ⟨hi361, h⟩ := if_s1 h
  refine va_sld hx hb hX hbl hbA hS (inb_in hi361) dL_law_361 ?_
  obtain ⟨r362, er362, h⟩ := bd_s1 h
  refine c_VI (k := 0) (ci := 9) (As := [.int (xs ((x3 + (1 : Int32))).toNatClampNeg), .int (xs ((x3 + (2 : Int32))).toNatClampNeg)]) (rest := []) hx hb hml hown hts hK hN hL hP hS (cX9_cell_ l bs D y (Nat.le_trans (by decide) hcb) n (xs ((x3 + (1 : Int32))).toNatClampNeg) (xs ((x3 + (2 : Int32))).toNatClampNeg) I J r362 er362) ok_X9_cell ov_X9_cell ml_232 ⟨Nat.le_of_ble_eq_true rfl, Nat.le_of_ble_eq_true rfl⟩ rfl hcb kd_0_76 hl.1 rfl rfl (Nat.le_of_ble_eq_true rfl) ⟨Nat.le_of_ble_eq_true rfl, Nat.le_of_ble_eq_true rfl⟩ dL_law_362 (fun H locs hP hS => ?_)
  refine lv_aload_n hx hb dL_law_365 rfl (lv_at hl 2 rfl) ?_
  refine lv_aload_n hx hb dL_law_366 rfl (lv_at hl 0 rfl) ?_
  refine lv_iload_n hx hb dL_law_367 rfl (lv_at hl 3 rfl) ?_
  refine lv_iconst (v := (1 : Int32)) hx hb dL_law_368 (by decide) ?_
  refine lv_iadd hx hb dL_law_369 ?_
  obtain ⟨hi370, h⟩ := if_s1 h
  refine va_sld hx hb hX hbl hbA hS (inb_in hi370) dL_law_370 ?_
  refine lv_aload_n hx hb dL_law_371 rfl (lv_at hl 0 rfl) ?_
  refine lv_iload_n hx hb dL_law_372 rfl (lv_at hl 3 rfl) ?_
  refine lv_iconst (v := (2 : Int32)) hx hb dL_law_373 (by decide) ?_
  refine lv_iadd hx hb dL_law_374 ?_
  obtain ⟨hi375, h⟩ := if_s1 h
  refine va_sld hx hb hX hbl hbA hS (inb_in hi375) dL_law_375 ?_
  obtain ⟨r376, er376, h⟩ := bd_s1 h
  refine c_VI (k := 44) (ci := 10) (As := [.int (xs ((x3 + (1 : Int32))).toNatClampNeg), .int (xs ((x3 + (2 : Int32))).toNatClampNeg)]) (rest := [.int r362.1]) hx hb hml hown hts hK hN hL hP hS (cX10_cell_ l bs D y hcb n (xs ((x3 + (1 : Int32))).toNatClampNeg) (xs ((x3 + (2 : Int32))).toNatClampNeg) r362.2.1 r362.2.2 r376 er376) ok_X10_cell ov_X10_cell ml_233 ⟨Nat.le_of_ble_eq_true rfl, Nat.le_of_ble_eq_true rfl⟩ rfl hcb kd_44_76 hl.1 rfl rfl (Nat.le_of_ble_eq_true rfl) ⟨Nat.le_of_ble_eq_true rfl, Nat.le_of_ble_eq_true rfl⟩ dL_law_376 (fun H locs hP hS => ?_)
  refine lv_icmp_eq (tgt := 1246) hx hb dL_law_379 (by decide) (fun c379 => ?_) (fun c379 => ?_)
  · replace h := if_t c379 h
    exact wL_law_1246 bs D y n L xs k18_ r Gc hk18_ x3 r376.2.1 r376.2.2 _ _ _ hP hS (lv_sub hl [0, 1, 2, 3] rfl) h
  · replace h := if_f c379 h
    refine lv_iconst (v := (0 : Int32)) hx hb dL_law_382 (by decide) ?_
    cases h
set_option maxHeartbeats 4000000 in
set_option maxRecDepth 100000 in
theorem wL_law_328 {p : Program} {l : Launch} {e : Env} {s : State} {m : MethodId} {b : Nat} {below : List Frame} {meth : Method} {c : Code} (bs : Nat) (D : va_G) (y : Y3) (n : Nat) (L : Nat) (xs : Nat → Int32) (k18_ : Int32 → MI → MJ → Option (Unit)) (r : Unit) (Gc : GL p s m meth c b L xs bs D y) (hk18_ : ∀ (x3 : Int32) (I : MI) (J : MJ) (H : Heap) (locs : List Loc) (ls : Array Slot), va_P D vwCl (wl bs y I J) H → va_S (FA bs) s.heap H locs → lv_has ls 4 [(0, .ref b), (1, .ref (bs + 0)), (2, .ref (bs + 44)), (3, .int x3)] → k18_ x3 I J = some r → W p l e room_1 s m #[Value.ref b] below meth c H locs 76 8771 (lw_Z below #[Value.ref b] s) (F0 m 18 ls [])) (x3 : Int32) (I : MI) (J : MJ) (H : Heap) (locs : List Loc) (ls : Array Slot) (hP : va_P D vwCl (wl bs y I J) H) (hS : va_S (FA bs) s.heap H locs) (hl : lv_has ls 4 [(0, .ref b), (1, .ref (bs + 0)), (2, .ref (bs + 44)), (3, .int x3)]) (h : fL_law_328 n L xs k18_ x3 I J = some r) : W p l e room_1 s m #[Value.ref b] below meth c H locs 76 8771 (lw_Z below #[Value.ref b] s) (F0 m 328 ls []) := by
  obtain ⟨hx, hb, hml, hown, hts, hK, hN, hL, hr, hlocks, hcb, hX, hbl, hbs⟩ := id Gc
  have hbA : ¬ FA bs b := by rw [hbs]; exact Nat.not_le.mpr hbl
  unfold fL_law_328 at h
  refine lv_aload_n hx hb dL_law_328 rfl (lv_at hl 1 rfl) ?_
  refine lv_aload_n hx hb dL_law_329 rfl (lv_at hl 0 rfl) ?_
  refine lv_iload_n hx hb dL_law_330 rfl (lv_at hl 3 rfl) ?_
  refine lv_iconst (v := (1 : Int32)) hx hb dL_law_331 (by decide) ?_
  refine lv_iadd hx hb dL_law_332 ?_
  obtain ⟨hi333, h⟩ := if_s1 h
  refine va_sld hx hb hX hbl hbA hS (inb_in hi333) dL_law_333 ?_
  obtain ⟨r334, er334, h⟩ := bd_s1 h
  refine c_VI (k := 0) (ci := 9) (As := [.int (xs ((x3 + (1 : Int32))).toNatClampNeg)]) (rest := []) hx hb hml hown hts hK hN hL hP hS (cX9_out_ l bs D y (Nat.le_trans (by decide) hcb) n (xs ((x3 + (1 : Int32))).toNatClampNeg) I J r334 er334) ok_X9_out ov_X9_out ml_234 ⟨Nat.le_of_ble_eq_true rfl, Nat.le_of_ble_eq_true rfl⟩ rfl hcb kd_0_76 hl.1 rfl rfl (Nat.le_of_ble_eq_true rfl) ⟨Nat.le_of_ble_eq_true rfl, Nat.le_of_ble_eq_true rfl⟩ dL_law_334 (fun H locs hP hS => ?_)
  refine lv_aload_n hx hb dL_law_337 rfl (lv_at hl 2 rfl) ?_
  refine lv_aload_n hx hb dL_law_338 rfl (lv_at hl 0 rfl) ?_
  refine lv_iload_n hx hb dL_law_339 rfl (lv_at hl 3 rfl) ?_
  refine lv_iconst (v := (1 : Int32)) hx hb dL_law_340 (by decide) ?_
  refine lv_iadd hx hb dL_law_341 ?_
  obtain ⟨hi342, h⟩ := if_s1 h
  refine va_sld hx hb hX hbl hbA hS (inb_in hi342) dL_law_342 ?_
  obtain ⟨r343, er343, h⟩ := bd_s1 h
  refine c_VI (k := 44) (ci := 10) (As := [.int (xs ((x3 + (1 : Int32))).toNatClampNeg)]) (rest := [.int r334.1]) hx hb hml hown hts hK hN hL hP hS (cX10_out_ l bs D y hcb n (xs ((x3 + (1 : Int32))).toNatClampNeg) r334.2.1 r334.2.2 r343 er343) ok_X10_out ov_X10_out ml_235 ⟨Nat.le_of_ble_eq_true rfl, Nat.le_of_ble_eq_true rfl⟩ rfl hcb kd_44_76 hl.1 rfl rfl (Nat.le_of_ble_eq_true rfl) ⟨Nat.le_of_ble_eq_true rfl, Nat.le_of_ble_eq_true rfl⟩ dL_law_343 (fun H locs hP hS => ?_)
  refine lv_icmp_eq (tgt := 1246) hx hb dL_law_346 (by decide) (fun c346 => ?_) (fun c346 => ?_)
  · replace h := if_t c346 h
    exact wL_law_1246 bs D y n L xs k18_ r Gc hk18_ x3 r343.2.1 r343.2.2 _ _ _ hP hS (lv_sub hl [0, 1, 2, 3] rfl) h
  · replace h := if_f c346 h
    refine lv_iconst (v := (0 : Int32)) hx hb dL_law_349 (by decide) ?_
    cases h
set_option maxHeartbeats 4000000 in
set_option maxRecDepth 100000 in
theorem wL_law_295 {p : Program} {l : Launch} {e : Env} {s : State} {m : MethodId} {b : Nat} {below : List Frame} {meth : Method} {c : Code} (bs : Nat) (D : va_G) (y : Y3) (n : Nat) (L : Nat) (xs : Nat → Int32) (k18_ : Int32 → MI → MJ → Option (Unit)) (r : Unit) (Gc : GL p s m meth c b L xs bs D y) (hk18_ : ∀ (x3 : Int32) (I : MI) (J : MJ) (H : Heap) (locs : List Loc) (ls : Array Slot), va_P D vwCl (wl bs y I J) H → va_S (FA bs) s.heap H locs → lv_has ls 4 [(0, .ref b), (1, .ref (bs + 0)), (2, .ref (bs + 44)), (3, .int x3)] → k18_ x3 I J = some r → W p l e room_1 s m #[Value.ref b] below meth c H locs 76 8771 (lw_Z below #[Value.ref b] s) (F0 m 18 ls [])) (x3 : Int32) (I : MI) (J : MJ) (H : Heap) (locs : List Loc) (ls : Array Slot) (hP : va_P D vwCl (wl bs y I J) H) (hS : va_S (FA bs) s.heap H locs) (hl : lv_has ls 4 [(0, .ref b), (1, .ref (bs + 0)), (2, .ref (bs + 44)), (3, .int x3)]) (h : fL_law_295 n L xs k18_ x3 I J = some r) : W p l e room_1 s m #[Value.ref b] below meth c H locs 76 8771 (lw_Z below #[Value.ref b] s) (F0 m 295 ls []) := by
  obtain ⟨hx, hb, hml, hown, hts, hK, hN, hL, hr, hlocks, hcb, hX, hbl, hbs⟩ := id Gc
  have hbA : ¬ FA bs b := by rw [hbs]; exact Nat.not_le.mpr hbl
  unfold fL_law_295 at h
  refine lv_aload_n hx hb dL_law_295 rfl (lv_at hl 1 rfl) ?_
  refine lv_aload_n hx hb dL_law_296 rfl (lv_at hl 0 rfl) ?_
  refine lv_iload_n hx hb dL_law_297 rfl (lv_at hl 3 rfl) ?_
  refine lv_iconst (v := (1 : Int32)) hx hb dL_law_298 (by decide) ?_
  refine lv_iadd hx hb dL_law_299 ?_
  obtain ⟨hi300, h⟩ := if_s1 h
  refine va_sld hx hb hX hbl hbA hS (inb_in hi300) dL_law_300 ?_
  refine lv_aload_n hx hb dL_law_301 rfl (lv_at hl 0 rfl) ?_
  refine lv_iload_n hx hb dL_law_302 rfl (lv_at hl 3 rfl) ?_
  refine lv_iconst (v := (2 : Int32)) hx hb dL_law_303 (by decide) ?_
  refine lv_iadd hx hb dL_law_304 ?_
  obtain ⟨hi305, h⟩ := if_s1 h
  refine va_sld hx hb hX hbl hbA hS (inb_in hi305) dL_law_305 ?_
  obtain ⟨r306, er306, h⟩ := bd_s1 h
  refine c_VI (k := 0) (ci := 9) (As := [.int (xs ((x3 + (1 : Int32))).toNatClampNeg), .int (xs ((x3 + (2 : Int32))).toNatClampNeg)]) (rest := []) hx hb hml hown hts hK hN hL hP hS (cX9_source_ l bs D y (Nat.le_trans (by decide) hcb) n (xs ((x3 + (1 : Int32))).toNatClampNeg) (xs ((x3 + (2 : Int32))).toNatClampNeg) I J r306 er306) ok_X9_source ov_X9_source ml_236 ⟨Nat.le_of_ble_eq_true rfl, Nat.le_of_ble_eq_true rfl⟩ rfl hcb kd_0_76 hl.1 rfl rfl (Nat.le_of_ble_eq_true rfl) ⟨Nat.le_of_ble_eq_true rfl, Nat.le_of_ble_eq_true rfl⟩ dL_law_306 (fun H locs hP hS => ?_)
  refine lv_aload_n hx hb dL_law_309 rfl (lv_at hl 2 rfl) ?_
  refine lv_aload_n hx hb dL_law_310 rfl (lv_at hl 0 rfl) ?_
  refine lv_iload_n hx hb dL_law_311 rfl (lv_at hl 3 rfl) ?_
  refine lv_iconst (v := (1 : Int32)) hx hb dL_law_312 (by decide) ?_
  refine lv_iadd hx hb dL_law_313 ?_
  obtain ⟨hi314, h⟩ := if_s1 h
  refine va_sld hx hb hX hbl hbA hS (inb_in hi314) dL_law_314 ?_
  refine lv_aload_n hx hb dL_law_315 rfl (lv_at hl 0 rfl) ?_
  refine lv_iload_n hx hb dL_law_316 rfl (lv_at hl 3 rfl) ?_
  refine lv_iconst (v := (2 : Int32)) hx hb dL_law_317 (by decide) ?_
  refine lv_iadd hx hb dL_law_318 ?_
  obtain ⟨hi319, h⟩ := if_s1 h
  refine va_sld hx hb hX hbl hbA hS (inb_in hi319) dL_law_319 ?_
  obtain ⟨r320, er320, h⟩ := bd_s1 h
  refine c_VI (k := 44) (ci := 10) (As := [.int (xs ((x3 + (1 : Int32))).toNatClampNeg), .int (xs ((x3 + (2 : Int32))).toNatClampNeg)]) (rest := [.int r306.1]) hx hb hml hown hts hK hN hL hP hS (cX10_source_ l bs D y hcb n (xs ((x3 + (1 : Int32))).toNatClampNeg) (xs ((x3 + (2 : Int32))).toNatClampNeg) r306.2.1 r306.2.2 r320 er320) ok_X10_source ov_X10_source ml_237 ⟨Nat.le_of_ble_eq_true rfl, Nat.le_of_ble_eq_true rfl⟩ rfl hcb kd_44_76 hl.1 rfl rfl (Nat.le_of_ble_eq_true rfl) ⟨Nat.le_of_ble_eq_true rfl, Nat.le_of_ble_eq_true rfl⟩ dL_law_320 (fun H locs hP hS => ?_)
  refine lv_icmp_eq (tgt := 1246) hx hb dL_law_323 (by decide) (fun c323 => ?_) (fun c323 => ?_)
  · replace h := if_t c323 h
    exact wL_law_1246 bs D y n L xs k18_ r Gc hk18_ x3 r320.2.1 r320.2.2 _ _ _ hP hS (lv_sub hl [0, 1, 2, 3] rfl) h
  · replace h := if_f c323 h
    refine lv_iconst (v := (0 : Int32)) hx hb dL_law_326 (by decide) ?_
    cases h
set_option maxHeartbeats 4000000 in
set_option maxRecDepth 100000 in
theorem wL_law_252 {p : Program} {l : Launch} {e : Env} {s : State} {m : MethodId} {b : Nat} {below : List Frame} {meth : Method} {c : Code} (bs : Nat) (D : va_G) (y : Y3) (n : Nat) (L : Nat) (xs : Nat → Int32) (k18_ : Int32 → MI → MJ → Option (Unit)) (r : Unit) (Gc : GL p s m meth c b L xs bs D y) (hk18_ : ∀ (x3 : Int32) (I : MI) (J : MJ) (H : Heap) (locs : List Loc) (ls : Array Slot), va_P D vwCl (wl bs y I J) H → va_S (FA bs) s.heap H locs → lv_has ls 4 [(0, .ref b), (1, .ref (bs + 0)), (2, .ref (bs + 44)), (3, .int x3)] → k18_ x3 I J = some r → W p l e room_1 s m #[Value.ref b] below meth c H locs 76 8771 (lw_Z below #[Value.ref b] s) (F0 m 18 ls [])) (x3 : Int32) (I : MI) (J : MJ) (H : Heap) (locs : List Loc) (ls : Array Slot) (hP : va_P D vwCl (wl bs y I J) H) (hS : va_S (FA bs) s.heap H locs) (hl : lv_has ls 4 [(0, .ref b), (1, .ref (bs + 0)), (2, .ref (bs + 44)), (3, .int x3)]) (h : fL_law_252 n L xs k18_ x3 I J = some r) : W p l e room_1 s m #[Value.ref b] below meth c H locs 76 8771 (lw_Z below #[Value.ref b] s) (F0 m 252 ls []) := by
  obtain ⟨hx, hb, hml, hown, hts, hK, hN, hL, hr, hlocks, hcb, hX, hbl, hbs⟩ := id Gc
  have hbA : ¬ FA bs b := by rw [hbs]; exact Nat.not_le.mpr hbl
  unfold fL_law_252 at h
  refine lv_aload_n hx hb dL_law_252 rfl (lv_at hl 1 rfl) ?_
  refine lv_aload_n hx hb dL_law_253 rfl (lv_at hl 0 rfl) ?_
  refine lv_iload_n hx hb dL_law_254 rfl (lv_at hl 3 rfl) ?_
  refine lv_iconst (v := (1 : Int32)) hx hb dL_law_255 (by decide) ?_
  refine lv_iadd hx hb dL_law_256 ?_
  obtain ⟨hi257, h⟩ := if_s1 h
  refine va_sld hx hb hX hbl hbA hS (inb_in hi257) dL_law_257 ?_
  refine lv_aload_n hx hb dL_law_258 rfl (lv_at hl 0 rfl) ?_
  refine lv_iload_n hx hb dL_law_259 rfl (lv_at hl 3 rfl) ?_
  refine lv_iconst (v := (2 : Int32)) hx hb dL_law_260 (by decide) ?_
  refine lv_iadd hx hb dL_law_261 ?_
  obtain ⟨hi262, h⟩ := if_s1 h
  refine va_sld hx hb hX hbl hbA hS (inb_in hi262) dL_law_262 ?_
  refine lv_aload_n hx hb dL_law_263 rfl (lv_at hl 0 rfl) ?_
  refine lv_iload_n hx hb dL_law_264 rfl (lv_at hl 3 rfl) ?_
  refine lv_iconst (v := (3 : Int32)) hx hb dL_law_265 (by decide) ?_
  refine lv_iadd hx hb dL_law_266 ?_
  obtain ⟨hi267, h⟩ := if_s1 h
  refine va_sld hx hb hX hbl hbA hS (inb_in hi267) dL_law_267 ?_
  obtain ⟨r268, er268, h⟩ := bd_s1 h
  refine c_VI (k := 0) (ci := 9) (As := [.int (xs ((x3 + (1 : Int32))).toNatClampNeg), .int (xs ((x3 + (2 : Int32))).toNatClampNeg), .int (xs ((x3 + (3 : Int32))).toNatClampNeg)]) (rest := []) hx hb hml hown hts hK hN hL hP hS (cX9_gate_ l bs D y (Nat.le_trans (by decide) hcb) n (xs ((x3 + (1 : Int32))).toNatClampNeg) (xs ((x3 + (2 : Int32))).toNatClampNeg) (xs ((x3 + (3 : Int32))).toNatClampNeg) I J r268 er268) ok_X9_gate ov_X9_gate ml_238 ⟨Nat.le_of_ble_eq_true rfl, Nat.le_of_ble_eq_true rfl⟩ rfl hcb kd_0_76 hl.1 rfl rfl (Nat.le_of_ble_eq_true rfl) ⟨Nat.le_of_ble_eq_true rfl, Nat.le_of_ble_eq_true rfl⟩ dL_law_268 (fun H locs hP hS => ?_)
  refine lv_aload_n hx hb dL_law_271 rfl (lv_at hl 2 rfl) ?_
  refine lv_aload_n hx hb dL_law_272 rfl (lv_at hl 0 rfl) ?_
  refine lv_iload_n hx hb dL_law_273 rfl (lv_at hl 3 rfl) ?_
  refine lv_iconst (v := (1 : Int32)) hx hb dL_law_274 (by decide) ?_
  refine lv_iadd hx hb dL_law_275 ?_
  obtain ⟨hi276, h⟩ := if_s1 h
  refine va_sld hx hb hX hbl hbA hS (inb_in hi276) dL_law_276 ?_
  refine lv_aload_n hx hb dL_law_277 rfl (lv_at hl 0 rfl) ?_
  refine lv_iload_n hx hb dL_law_278 rfl (lv_at hl 3 rfl) ?_
  refine lv_iconst (v := (2 : Int32)) hx hb dL_law_279 (by decide) ?_
  refine lv_iadd hx hb dL_law_280 ?_
  obtain ⟨hi281, h⟩ := if_s1 h
  refine va_sld hx hb hX hbl hbA hS (inb_in hi281) dL_law_281 ?_
  refine lv_aload_n hx hb dL_law_282 rfl (lv_at hl 0 rfl) ?_
  refine lv_iload_n hx hb dL_law_283 rfl (lv_at hl 3 rfl) ?_
  refine lv_iconst (v := (3 : Int32)) hx hb dL_law_284 (by decide) ?_
  refine lv_iadd hx hb dL_law_285 ?_
  obtain ⟨hi286, h⟩ := if_s1 h
  refine va_sld hx hb hX hbl hbA hS (inb_in hi286) dL_law_286 ?_
  obtain ⟨r287, er287, h⟩ := bd_s1 h
  refine c_VI (k := 44) (ci := 10) (As := [.int (xs ((x3 + (1 : Int32))).toNatClampNeg), .int (xs ((x3 + (2 : Int32))).toNatClampNeg), .int (xs ((x3 + (3 : Int32))).toNatClampNeg)]) (rest := [.int r268.1]) hx hb hml hown hts hK hN hL hP hS (cX10_gate_ l bs D y hcb n (xs ((x3 + (1 : Int32))).toNatClampNeg) (xs ((x3 + (2 : Int32))).toNatClampNeg) (xs ((x3 + (3 : Int32))).toNatClampNeg) r268.2.1 r268.2.2 r287 er287) ok_X10_gate ov_X10_gate ml_239 ⟨Nat.le_of_ble_eq_true rfl, Nat.le_of_ble_eq_true rfl⟩ rfl hcb kd_44_76 hl.1 rfl rfl (Nat.le_of_ble_eq_true rfl) ⟨Nat.le_of_ble_eq_true rfl, Nat.le_of_ble_eq_true rfl⟩ dL_law_287 (fun H locs hP hS => ?_)
  refine lv_icmp_eq (tgt := 1246) hx hb dL_law_290 (by decide) (fun c290 => ?_) (fun c290 => ?_)
  · replace h := if_t c290 h
    exact wL_law_1246 bs D y n L xs k18_ r Gc hk18_ x3 r287.2.1 r287.2.2 _ _ _ hP hS (lv_sub hl [0, 1, 2, 3] rfl) h
  · replace h := if_f c290 h
    refine lv_iconst (v := (0 : Int32)) hx hb dL_law_293 (by decide) ?_
    cases h
set_option maxHeartbeats 4000000 in
set_option maxRecDepth 100000 in
theorem wL_law_244 {p : Program} {l : Launch} {e : Env} {s : State} {m : MethodId} {b : Nat} {below : List Frame} {meth : Method} {c : Code} (bs : Nat) (D : va_G) (y : Y3) (n : Nat) (L : Nat) (xs : Nat → Int32) (k18_ : Int32 → MI → MJ → Option (Unit)) (r : Unit) (Gc : GL p s m meth c b L xs bs D y) (hk18_ : ∀ (x3 : Int32) (I : MI) (J : MJ) (H : Heap) (locs : List Loc) (ls : Array Slot), va_P D vwCl (wl bs y I J) H → va_S (FA bs) s.heap H locs → lv_has ls 4 [(0, .ref b), (1, .ref (bs + 0)), (2, .ref (bs + 44)), (3, .int x3)] → k18_ x3 I J = some r → W p l e room_1 s m #[Value.ref b] below meth c H locs 76 8771 (lw_Z below #[Value.ref b] s) (F0 m 18 ls [])) (x3 : Int32) (s0 : Int32) (s2 : Int32) (I : MI) (J : MJ) (H : Heap) (locs : List Loc) (ls : Array Slot) (hP : va_P D vwCl (wl bs y I J) H) (hS : va_S (FA bs) s.heap H locs) (hl : lv_has ls 4 [(0, .ref b), (1, .ref (bs + 0)), (2, .ref (bs + 44)), (3, .int x3)]) (h : fL_law_244 n L xs k18_ x3 s0 s2 I J = some r) : W p l e room_1 s m #[Value.ref b] below meth c H locs 76 8771 (lw_Z below #[Value.ref b] s) (F0 m 244 ls [.int s2, .ref (bs + 44), .int s0]) := by
  obtain ⟨hx, hb, hml, hown, hts, hK, hN, hL, hr, hlocks, hcb, hX, hbl, hbs⟩ := id Gc
  have hbA : ¬ FA bs b := by rw [hbs]; exact Nat.not_le.mpr hbl
  unfold fL_law_244 at h
  obtain ⟨r244, er244, h⟩ := bd_s1 h
  refine c_VI (k := 44) (ci := 10) (As := [.int s2]) (rest := [.int s0]) hx hb hml hown hts hK hN hL hP hS (cX10_keeper_ l bs D y hcb n s2 I J r244 er244) ok_X10_keeper ov_X10_keeper ml_240 ⟨Nat.le_of_ble_eq_true rfl, Nat.le_of_ble_eq_true rfl⟩ rfl hcb kd_44_76 hl.1 rfl rfl (Nat.le_of_ble_eq_true rfl) ⟨Nat.le_of_ble_eq_true rfl, Nat.le_of_ble_eq_true rfl⟩ dL_law_244 (fun H locs hP hS => ?_)
  refine lv_icmp_eq (tgt := 1246) hx hb dL_law_247 (by decide) (fun c247 => ?_) (fun c247 => ?_)
  · replace h := if_t c247 h
    exact wL_law_1246 bs D y n L xs k18_ r Gc hk18_ x3 r244.2.1 r244.2.2 _ _ _ hP hS (lv_sub hl [0, 1, 2, 3] rfl) h
  · replace h := if_f c247 h
    refine lv_iconst (v := (0 : Int32)) hx hb dL_law_250 (by decide) ?_
    cases h
set_option maxHeartbeats 4000000 in
set_option maxRecDepth 100000 in
theorem wL_law_227 {p : Program} {l : Launch} {e : Env} {s : State} {m : MethodId} {b : Nat} {below : List Frame} {meth : Method} {c : Code} (bs : Nat) (D : va_G) (y : Y3) (n : Nat) (L : Nat) (xs : Nat → Int32) (k18_ : Int32 → MI → MJ → Option (Unit)) (r : Unit) (Gc : GL p s m meth c b L xs bs D y) (hk18_ : ∀ (x3 : Int32) (I : MI) (J : MJ) (H : Heap) (locs : List Loc) (ls : Array Slot), va_P D vwCl (wl bs y I J) H → va_S (FA bs) s.heap H locs → lv_has ls 4 [(0, .ref b), (1, .ref (bs + 0)), (2, .ref (bs + 44)), (3, .int x3)] → k18_ x3 I J = some r → W p l e room_1 s m #[Value.ref b] below meth c H locs 76 8771 (lw_Z below #[Value.ref b] s) (F0 m 18 ls [])) (x3 : Int32) (s1 : Int32) (I : MI) (J : MJ) (H : Heap) (locs : List Loc) (ls : Array Slot) (hP : va_P D vwCl (wl bs y I J) H) (hS : va_S (FA bs) s.heap H locs) (hl : lv_has ls 4 [(0, .ref b), (1, .ref (bs + 0)), (2, .ref (bs + 44)), (3, .int x3)]) (h : fL_law_227 n L xs k18_ x3 s1 I J = some r) : W p l e room_1 s m #[Value.ref b] below meth c H locs 76 8771 (lw_Z below #[Value.ref b] s) (F0 m 227 ls [.int s1, .ref (bs + 0)]) := by
  obtain ⟨hx, hb, hml, hown, hts, hK, hN, hL, hr, hlocks, hcb, hX, hbl, hbs⟩ := id Gc
  have hbA : ¬ FA bs b := by rw [hbs]; exact Nat.not_le.mpr hbl
  unfold fL_law_227 at h
  obtain ⟨r227, er227, h⟩ := bd_s1 h
  refine c_VI (k := 0) (ci := 9) (As := [.int s1]) (rest := []) hx hb hml hown hts hK hN hL hP hS (cX9_keeper_ l bs D y (Nat.le_trans (by decide) hcb) n s1 I J r227 er227) ok_X9_keeper ov_X9_keeper ml_241 ⟨Nat.le_of_ble_eq_true rfl, Nat.le_of_ble_eq_true rfl⟩ rfl hcb kd_0_76 hl.1 rfl rfl (Nat.le_of_ble_eq_true rfl) ⟨Nat.le_of_ble_eq_true rfl, Nat.le_of_ble_eq_true rfl⟩ dL_law_227 (fun H locs hP hS => ?_)
  refine lv_aload_n hx hb dL_law_230 rfl (lv_at hl 2 rfl) ?_
  refine lv_aload_n hx hb dL_law_231 rfl (lv_at hl 0 rfl) ?_
  refine lv_iload_n hx hb dL_law_232 rfl (lv_at hl 3 rfl) ?_
  refine lv_iconst (v := (1 : Int32)) hx hb dL_law_233 (by decide) ?_
  refine lv_iadd hx hb dL_law_234 ?_
  obtain ⟨hi235, h⟩ := if_s1 h
  refine va_sld hx hb hX hbl hbA hS (inb_in hi235) dL_law_235 ?_
  refine lv_if_eq (tgt := 243) hx hb dL_law_236 (by decide) (fun c236 => ?_) (fun c236 => ?_)
  · replace h := if_t c236 h
    refine lv_iconst (v := (0 : Int32)) hx hb dL_law_243 (by decide) ?_
    exact wL_law_244 bs D y n L xs k18_ r Gc hk18_ x3 r227.1 (0 : Int32) r227.2.1 r227.2.2 _ _ _ hP hS (lv_sub hl [0, 1, 2, 3] rfl) h
  · replace h := if_f c236 h
    refine lv_iconst (v := (1 : Int32)) hx hb dL_law_239 (by decide) ?_
    refine lv_goto (tgt := 244) hx hb dL_law_240 (by decide) ?_
    exact wL_law_244 bs D y n L xs k18_ r Gc hk18_ x3 r227.1 (1 : Int32) r227.2.1 r227.2.2 _ _ _ hP hS (lv_sub hl [0, 1, 2, 3] rfl) h
set_option maxHeartbeats 4000000 in
set_option maxRecDepth 100000 in
theorem wL_law_213 {p : Program} {l : Launch} {e : Env} {s : State} {m : MethodId} {b : Nat} {below : List Frame} {meth : Method} {c : Code} (bs : Nat) (D : va_G) (y : Y3) (n : Nat) (L : Nat) (xs : Nat → Int32) (k18_ : Int32 → MI → MJ → Option (Unit)) (r : Unit) (Gc : GL p s m meth c b L xs bs D y) (hk18_ : ∀ (x3 : Int32) (I : MI) (J : MJ) (H : Heap) (locs : List Loc) (ls : Array Slot), va_P D vwCl (wl bs y I J) H → va_S (FA bs) s.heap H locs → lv_has ls 4 [(0, .ref b), (1, .ref (bs + 0)), (2, .ref (bs + 44)), (3, .int x3)] → k18_ x3 I J = some r → W p l e room_1 s m #[Value.ref b] below meth c H locs 76 8771 (lw_Z below #[Value.ref b] s) (F0 m 18 ls [])) (x3 : Int32) (I : MI) (J : MJ) (H : Heap) (locs : List Loc) (ls : Array Slot) (hP : va_P D vwCl (wl bs y I J) H) (hS : va_S (FA bs) s.heap H locs) (hl : lv_has ls 4 [(0, .ref b), (1, .ref (bs + 0)), (2, .ref (bs + 44)), (3, .int x3)]) (h : fL_law_213 n L xs k18_ x3 I J = some r) : W p l e room_1 s m #[Value.ref b] below meth c H locs 76 8771 (lw_Z below #[Value.ref b] s) (F0 m 213 ls []) := by
  obtain ⟨hx, hb, hml, hown, hts, hK, hN, hL, hr, hlocks, hcb, hX, hbl, hbs⟩ := id Gc
  have hbA : ¬ FA bs b := by rw [hbs]; exact Nat.not_le.mpr hbl
  unfold fL_law_213 at h
  refine lv_aload_n hx hb dL_law_213 rfl (lv_at hl 1 rfl) ?_
  refine lv_aload_n hx hb dL_law_214 rfl (lv_at hl 0 rfl) ?_
  refine lv_iload_n hx hb dL_law_215 rfl (lv_at hl 3 rfl) ?_
  refine lv_iconst (v := (1 : Int32)) hx hb dL_law_216 (by decide) ?_
  refine lv_iadd hx hb dL_law_217 ?_
  obtain ⟨hi218, h⟩ := if_s1 h
  refine va_sld hx hb hX hbl hbA hS (inb_in hi218) dL_law_218 ?_
  refine lv_if_eq (tgt := 226) hx hb dL_law_219 (by decide) (fun c219 => ?_) (fun c219 => ?_)
  · replace h := if_t c219 h
    refine lv_iconst (v := (0 : Int32)) hx hb dL_law_226 (by decide) ?_
    exact wL_law_227 bs D y n L xs k18_ r Gc hk18_ x3 (0 : Int32) I J _ _ _ hP hS (lv_sub hl [0, 1, 2, 3] rfl) h
  · replace h := if_f c219 h
    refine lv_iconst (v := (1 : Int32)) hx hb dL_law_222 (by decide) ?_
    refine lv_goto (tgt := 227) hx hb dL_law_223 (by decide) ?_
    exact wL_law_227 bs D y n L xs k18_ r Gc hk18_ x3 (1 : Int32) I J _ _ _ hP hS (lv_sub hl [0, 1, 2, 3] rfl) h
set_option maxHeartbeats 4000000 in
set_option maxRecDepth 100000 in
theorem wL_law_200 {p : Program} {l : Launch} {e : Env} {s : State} {m : MethodId} {b : Nat} {below : List Frame} {meth : Method} {c : Code} (bs : Nat) (D : va_G) (y : Y3) (n : Nat) (L : Nat) (xs : Nat → Int32) (k18_ : Int32 → MI → MJ → Option (Unit)) (r : Unit) (Gc : GL p s m meth c b L xs bs D y) (hk18_ : ∀ (x3 : Int32) (I : MI) (J : MJ) (H : Heap) (locs : List Loc) (ls : Array Slot), va_P D vwCl (wl bs y I J) H → va_S (FA bs) s.heap H locs → lv_has ls 4 [(0, .ref b), (1, .ref (bs + 0)), (2, .ref (bs + 44)), (3, .int x3)] → k18_ x3 I J = some r → W p l e room_1 s m #[Value.ref b] below meth c H locs 76 8771 (lw_Z below #[Value.ref b] s) (F0 m 18 ls [])) (x3 : Int32) (I : MI) (J : MJ) (H : Heap) (locs : List Loc) (ls : Array Slot) (hP : va_P D vwCl (wl bs y I J) H) (hS : va_S (FA bs) s.heap H locs) (hl : lv_has ls 4 [(0, .ref b), (1, .ref (bs + 0)), (2, .ref (bs + 44)), (3, .int x3)]) (h : fL_law_200 n L xs k18_ x3 I J = some r) : W p l e room_1 s m #[Value.ref b] below meth c H locs 76 8771 (lw_Z below #[Value.ref b] s) (F0 m 200 ls []) := by
  obtain ⟨hx, hb, hml, hown, hts, hK, hN, hL, hr, hlocks, hcb, hX, hbl, hbs⟩ := id Gc
  have hbA : ¬ FA bs b := by rw [hbs]; exact Nat.not_le.mpr hbl
  unfold fL_law_200 at h
  refine lv_aload_n hx hb dL_law_200 rfl (lv_at hl 1 rfl) ?_
  obtain ⟨r201, er201, h⟩ := bd_s1 h
  refine c_VI (k := 0) (ci := 9) (As := []) (rest := []) hx hb hml hown hts hK hN hL hP hS (cX9_input_ l bs D y (Nat.le_trans (by decide) hcb) n  I J r201 er201) ok_X9_input ov_X9_input ml_242 ⟨Nat.le_of_ble_eq_true rfl, Nat.le_of_ble_eq_true rfl⟩ rfl hcb kd_0_76 hl.1 rfl rfl (Nat.le_of_ble_eq_true rfl) ⟨Nat.le_of_ble_eq_true rfl, Nat.le_of_ble_eq_true rfl⟩ dL_law_201 (fun H locs hP hS => ?_)
  refine lv_aload_n hx hb dL_law_204 rfl (lv_at hl 2 rfl) ?_
  obtain ⟨r205, er205, h⟩ := bd_s1 h
  refine c_VI (k := 44) (ci := 10) (As := []) (rest := [.int r201.1]) hx hb hml hown hts hK hN hL hP hS (cX10_input_ l bs D y hcb n  r201.2.1 r201.2.2 r205 er205) ok_X10_input ov_X10_input ml_243 ⟨Nat.le_of_ble_eq_true rfl, Nat.le_of_ble_eq_true rfl⟩ rfl hcb kd_44_76 hl.1 rfl rfl (Nat.le_of_ble_eq_true rfl) ⟨Nat.le_of_ble_eq_true rfl, Nat.le_of_ble_eq_true rfl⟩ dL_law_205 (fun H locs hP hS => ?_)
  refine lv_icmp_eq (tgt := 1246) hx hb dL_law_208 (by decide) (fun c208 => ?_) (fun c208 => ?_)
  · replace h := if_t c208 h
    exact wL_law_1246 bs D y n L xs k18_ r Gc hk18_ x3 r205.2.1 r205.2.2 _ _ _ hP hS (lv_sub hl [0, 1, 2, 3] rfl) h
  · replace h := if_f c208 h
    refine lv_iconst (v := (0 : Int32)) hx hb dL_law_211 (by decide) ?_
    cases h
set_option maxHeartbeats 4000000 in
set_option maxRecDepth 100000 in
theorem wL_law_18 {p : Program} {l : Launch} {e : Env} {s : State} {m : MethodId} {b : Nat} {below : List Frame} {meth : Method} {c : Code} (bs : Nat) (D : va_G) (y : Y3) (n : Nat) (L : Nat) (xs : Nat → Int32) (k18_ : Int32 → MI → MJ → Option (Unit)) (r : Unit) (Gc : GL p s m meth c b L xs bs D y) (hk18_ : ∀ (x3 : Int32) (I : MI) (J : MJ) (H : Heap) (locs : List Loc) (ls : Array Slot), va_P D vwCl (wl bs y I J) H → va_S (FA bs) s.heap H locs → lv_has ls 4 [(0, .ref b), (1, .ref (bs + 0)), (2, .ref (bs + 44)), (3, .int x3)] → k18_ x3 I J = some r → W p l e room_1 s m #[Value.ref b] below meth c H locs 76 8771 (lw_Z below #[Value.ref b] s) (F0 m 18 ls [])) (x3 : Int32) (I : MI) (J : MJ) (H : Heap) (locs : List Loc) (ls : Array Slot) (hP : va_P D vwCl (wl bs y I J) H) (hS : va_S (FA bs) s.heap H locs) (hl : lv_has ls 4 [(0, .ref b), (1, .ref (bs + 0)), (2, .ref (bs + 44)), (3, .int x3)]) (h : fL_law_18 n L xs k18_ x3 I J = some r) : W p l e room_1 s m #[Value.ref b] below meth c H locs 76 8771 (lw_Z below #[Value.ref b] s) (F0 m 18 ls []) := by
  obtain ⟨hx, hb, hml, hown, hts, hK, hN, hL, hr, hlocks, hcb, hX, hbl, hbs⟩ := id Gc
  have hbA : ¬ FA bs b := by rw [hbs]; exact Nat.not_le.mpr hbl
  unfold fL_law_18 at h
  refine lv_iload_n hx hb dL_law_18 rfl (lv_at hl 3 rfl) ?_
  refine lv_aload_n hx hb dL_law_19 rfl (lv_at hl 0 rfl) ?_
  refine va_slen hx hb hX hbl hbA hS dL_law_20 ?_
  refine lv_iconst (v := (5 : Int32)) hx hb dL_law_21 (by decide) ?_
  refine lv_isub hx hb dL_law_22 ?_
  refine lv_icmp_gt (tgt := 1252) hx hb dL_law_23 (by decide) (fun c23 => ?_) (fun c23 => ?_)
  · replace h := if_t c23 h
    refine lv_iconst (v := (1 : Int32)) hx hb dL_law_1252 (by decide) ?_
    refine va_forget (fun q hq => by have h9 := hS.2.2 q hq; rw [hbs] at h9; exact h9) ?_
    exact lw_ret hx hb hr hlocks dL_law_1253
  · replace h := if_f c23 h
    refine lv_aload_n hx hb dL_law_26 rfl (lv_at hl 0 rfl) ?_
    refine lv_iload_n hx hb dL_law_27 rfl (lv_at hl 3 rfl) ?_
    obtain ⟨hi28, h⟩ := if_s1 h
    refine va_sld hx hb hX hbl hbA hS (inb_in hi28) dL_law_28 ?_
    refine lv_bipush (v := (63 : Int32)) hx hb dL_law_29 (by decide) ?_
    refine lv_iand hx hb dL_law_31 ?_
    obtain ⟨v32, ev32, h⟩ := lt_s1 h
    refine top_i ev32 ?_
    by_cases w32_0 : v32 = (0 : Int32)
    · replace h := if_t w32_0 h
      refine lv_tableIn (off := 168) (tgt := 200) hx hb dL_law_32 (by rw [w32_0]; decide) (by rw [w32_0]; decide) (by rw [w32_0]; rfl) (by decide) ?_
      exact wL_law_200 bs D y n L xs k18_ r Gc hk18_ x3 I J _ _ _ hP hS (lv_sub hl [0, 1, 2, 3] rfl) h
    · replace h := if_f w32_0 h
      by_cases w32_1 : v32 = (1 : Int32)
      · replace h := if_t w32_1 h
        refine lv_tableIn (off := 181) (tgt := 213) hx hb dL_law_32 (by rw [w32_1]; decide) (by rw [w32_1]; decide) (by rw [w32_1]; rfl) (by decide) ?_
        exact wL_law_213 bs D y n L xs k18_ r Gc hk18_ x3 I J _ _ _ hP hS (lv_sub hl [0, 1, 2, 3] rfl) h
      · replace h := if_f w32_1 h
        by_cases w32_2 : v32 = (2 : Int32)
        · replace h := if_t w32_2 h
          refine lv_tableIn (off := 220) (tgt := 252) hx hb dL_law_32 (by rw [w32_2]; decide) (by rw [w32_2]; decide) (by rw [w32_2]; rfl) (by decide) ?_
          exact wL_law_252 bs D y n L xs k18_ r Gc hk18_ x3 I J _ _ _ hP hS (lv_sub hl [0, 1, 2, 3] rfl) h
        · replace h := if_f w32_2 h
          by_cases w32_3 : v32 = (3 : Int32)
          · replace h := if_t w32_3 h
            refine lv_tableIn (off := 263) (tgt := 295) hx hb dL_law_32 (by rw [w32_3]; decide) (by rw [w32_3]; decide) (by rw [w32_3]; rfl) (by decide) ?_
            exact wL_law_295 bs D y n L xs k18_ r Gc hk18_ x3 I J _ _ _ hP hS (lv_sub hl [0, 1, 2, 3] rfl) h
          · replace h := if_f w32_3 h
            by_cases w32_4 : v32 = (4 : Int32)
            · replace h := if_t w32_4 h
              refine lv_tableIn (off := 296) (tgt := 328) hx hb dL_law_32 (by rw [w32_4]; decide) (by rw [w32_4]; decide) (by rw [w32_4]; rfl) (by decide) ?_
              exact wL_law_328 bs D y n L xs k18_ r Gc hk18_ x3 I J _ _ _ hP hS (lv_sub hl [0, 1, 2, 3] rfl) h
            · replace h := if_f w32_4 h
              by_cases w32_5 : v32 = (5 : Int32)
              · replace h := if_t w32_5 h
                refine lv_tableIn (off := 319) (tgt := 351) hx hb dL_law_32 (by rw [w32_5]; decide) (by rw [w32_5]; decide) (by rw [w32_5]; rfl) (by decide) ?_
                exact wL_law_351 bs D y n L xs k18_ r Gc hk18_ x3 I J _ _ _ hP hS (lv_sub hl [0, 1, 2, 3] rfl) h
              · replace h := if_f w32_5 h
                by_cases w32_6 : v32 = (6 : Int32)
                · replace h := if_t w32_6 h
                  refine lv_tableIn (off := 352) (tgt := 384) hx hb dL_law_32 (by rw [w32_6]; decide) (by rw [w32_6]; decide) (by rw [w32_6]; rfl) (by decide) ?_
                  exact wL_law_384 bs D y n L xs k18_ r Gc hk18_ x3 I J _ _ _ hP hS (lv_sub hl [0, 1, 2, 3] rfl) h
                · replace h := if_f w32_6 h
                  by_cases w32_7 : v32 = (7 : Int32)
                  · replace h := if_t w32_7 h
                    refine lv_tableIn (off := 375) (tgt := 407) hx hb dL_law_32 (by rw [w32_7]; decide) (by rw [w32_7]; decide) (by rw [w32_7]; rfl) (by decide) ?_
                    exact wL_law_407 bs D y n L xs k18_ r Gc hk18_ x3 I J _ _ _ hP hS (lv_sub hl [0, 1, 2, 3] rfl) h
                  · replace h := if_f w32_7 h
                    by_cases w32_8 : v32 = (8 : Int32)
                    · replace h := if_t w32_8 h
                      refine lv_tableIn (off := 408) (tgt := 440) hx hb dL_law_32 (by rw [w32_8]; decide) (by rw [w32_8]; decide) (by rw [w32_8]; rfl) (by decide) ?_
                      exact wL_law_440 bs D y n L xs k18_ r Gc hk18_ x3 I J _ _ _ hP hS (lv_sub hl [0, 1, 2, 3] rfl) h
                    · replace h := if_f w32_8 h
                      by_cases w32_9 : v32 = (9 : Int32)
                      · replace h := if_t w32_9 h
                        refine lv_tableIn (off := 431) (tgt := 463) hx hb dL_law_32 (by rw [w32_9]; decide) (by rw [w32_9]; decide) (by rw [w32_9]; rfl) (by decide) ?_
                        exact wL_law_463 bs D y n L xs k18_ r Gc hk18_ x3 I J _ _ _ hP hS (lv_sub hl [0, 1, 2, 3] rfl) h
                      · replace h := if_f w32_9 h
                        by_cases w32_10 : v32 = (10 : Int32)
                        · replace h := if_t w32_10 h
                          refine lv_tableIn (off := 444) (tgt := 476) hx hb dL_law_32 (by rw [w32_10]; decide) (by rw [w32_10]; decide) (by rw [w32_10]; rfl) (by decide) ?_
                          exact wL_law_476 bs D y n L xs k18_ r Gc hk18_ x3 I J _ _ _ hP hS (lv_sub hl [0, 1, 2, 3] rfl) h
                        · replace h := if_f w32_10 h
                          by_cases w32_11 : v32 = (11 : Int32)
                          · replace h := if_t w32_11 h
                            refine lv_tableIn (off := 477) (tgt := 509) hx hb dL_law_32 (by rw [w32_11]; decide) (by rw [w32_11]; decide) (by rw [w32_11]; rfl) (by decide) ?_
                            exact wL_law_509 bs D y n L xs k18_ r Gc hk18_ x3 I J _ _ _ hP hS (lv_sub hl [0, 1, 2, 3] rfl) h
                          · replace h := if_f w32_11 h
                            by_cases w32_12 : v32 = (12 : Int32)
                            · replace h := if_t w32_12 h
                              refine lv_tableIn (off := 530) (tgt := 562) hx hb dL_law_32 (by rw [w32_12]; decide) (by rw [w32_12]; decide) (by rw [w32_12]; rfl) (by decide) ?_
                              exact wL_law_562 bs D y n L xs k18_ r Gc hk18_ x3 I J _ _ _ hP hS (lv_sub hl [0, 1, 2, 3] rfl) h
                            · replace h := if_f w32_12 h
                              by_cases w32_13 : v32 = (13 : Int32)
                              · replace h := if_t w32_13 h
                                refine lv_tableIn (off := 579) (tgt := 611) hx hb dL_law_32 (by rw [w32_13]; decide) (by rw [w32_13]; decide) (by rw [w32_13]; rfl) (by decide) ?_
                                exact wL_law_611 bs D y n L xs k18_ r Gc hk18_ x3 I J _ _ _ hP hS (lv_sub hl [0, 1, 2, 3] rfl) h
                              · replace h := if_f w32_13 h
                                by_cases w32_14 : v32 = (14 : Int32)
                                · replace h := if_t w32_14 h
                                  refine lv_tableIn (off := 592) (tgt := 624) hx hb dL_law_32 (by rw [w32_14]; decide) (by rw [w32_14]; decide) (by rw [w32_14]; rfl) (by decide) ?_
                                  exact wL_law_624 bs D y n L xs k18_ r Gc hk18_ x3 I J _ _ _ hP hS (lv_sub hl [0, 1, 2, 3] rfl) h
                                · replace h := if_f w32_14 h
                                  by_cases w32_15 : v32 = (15 : Int32)
                                  · replace h := if_t w32_15 h
                                    refine lv_tableIn (off := 615) (tgt := 647) hx hb dL_law_32 (by rw [w32_15]; decide) (by rw [w32_15]; decide) (by rw [w32_15]; rfl) (by decide) ?_
                                    exact wL_law_647 bs D y n L xs k18_ r Gc hk18_ x3 I J _ _ _ hP hS (lv_sub hl [0, 1, 2, 3] rfl) h
                                  · replace h := if_f w32_15 h
                                    by_cases w32_16 : v32 = (16 : Int32)
                                    · replace h := if_t w32_16 h
                                      refine lv_tableIn (off := 648) (tgt := 680) hx hb dL_law_32 (by rw [w32_16]; decide) (by rw [w32_16]; decide) (by rw [w32_16]; rfl) (by decide) ?_
                                      exact wL_law_680 bs D y n L xs k18_ r Gc hk18_ x3 I J _ _ _ hP hS (lv_sub hl [0, 1, 2, 3] rfl) h
                                    · replace h := if_f w32_16 h
                                      by_cases w32_17 : v32 = (17 : Int32)
                                      · replace h := if_t w32_17 h
                                        refine lv_tableIn (off := 681) (tgt := 713) hx hb dL_law_32 (by rw [w32_17]; decide) (by rw [w32_17]; decide) (by rw [w32_17]; rfl) (by decide) ?_
                                        exact wL_law_713 bs D y n L xs k18_ r Gc hk18_ x3 I J _ _ _ hP hS (lv_sub hl [0, 1, 2, 3] rfl) h
                                      · replace h := if_f w32_17 h
                                        by_cases w32_18 : v32 = (18 : Int32)
                                        · replace h := if_t w32_18 h
                                          refine lv_tableIn (off := 744) (tgt := 776) hx hb dL_law_32 (by rw [w32_18]; decide) (by rw [w32_18]; decide) (by rw [w32_18]; rfl) (by decide) ?_
                                          exact wL_law_776 bs D y n L xs k18_ r Gc hk18_ x3 I J _ _ _ hP hS (lv_sub hl [0, 1, 2, 3] rfl) h
                                        · replace h := if_f w32_18 h
                                          by_cases w32_19 : v32 = (19 : Int32)
                                          · replace h := if_t w32_19 h
                                            refine lv_tableIn (off := 757) (tgt := 789) hx hb dL_law_32 (by rw [w32_19]; decide) (by rw [w32_19]; decide) (by rw [w32_19]; rfl) (by decide) ?_
                                            exact wL_law_789 bs D y n L xs k18_ r Gc hk18_ x3 I J _ _ _ hP hS (lv_sub hl [0, 1, 2, 3] rfl) h
                                          · replace h := if_f w32_19 h
                                            by_cases w32_20 : v32 = (20 : Int32)
                                            · replace h := if_t w32_20 h
                                              refine lv_tableIn (off := 790) (tgt := 822) hx hb dL_law_32 (by rw [w32_20]; decide) (by rw [w32_20]; decide) (by rw [w32_20]; rfl) (by decide) ?_
                                              exact wL_law_822 bs D y n L xs k18_ r Gc hk18_ x3 I J _ _ _ hP hS (lv_sub hl [0, 1, 2, 3] rfl) h
                                            · replace h := if_f w32_20 h
                                              by_cases w32_21 : v32 = (21 : Int32)
                                              · replace h := if_t w32_21 h
                                                refine lv_tableIn (off := 813) (tgt := 845) hx hb dL_law_32 (by rw [w32_21]; decide) (by rw [w32_21]; decide) (by rw [w32_21]; rfl) (by decide) ?_
                                                exact wL_law_845 bs D y n L xs k18_ r Gc hk18_ x3 I J _ _ _ hP hS (lv_sub hl [0, 1, 2, 3] rfl) h
                                              · replace h := if_f w32_21 h
                                                by_cases w32_22 : v32 = (22 : Int32)
                                                · replace h := if_t w32_22 h
                                                  refine lv_tableIn (off := 836) (tgt := 868) hx hb dL_law_32 (by rw [w32_22]; decide) (by rw [w32_22]; decide) (by rw [w32_22]; rfl) (by decide) ?_
                                                  exact wL_law_868 bs D y n L xs k18_ r Gc hk18_ x3 I J _ _ _ hP hS (lv_sub hl [0, 1, 2, 3] rfl) h
                                                · replace h := if_f w32_22 h
                                                  by_cases w32_23 : v32 = (23 : Int32)
                                                  · replace h := if_t w32_23 h
                                                    refine lv_tableIn (off := 869) (tgt := 901) hx hb dL_law_32 (by rw [w32_23]; decide) (by rw [w32_23]; decide) (by rw [w32_23]; rfl) (by decide) ?_
                                                    exact wL_law_901 bs D y n L xs k18_ r Gc hk18_ x3 I J _ _ _ hP hS (lv_sub hl [0, 1, 2, 3] rfl) h
                                                  · replace h := if_f w32_23 h
                                                    by_cases w32_24 : v32 = (24 : Int32)
                                                    · replace h := if_t w32_24 h
                                                      refine lv_tableIn (off := 902) (tgt := 934) hx hb dL_law_32 (by rw [w32_24]; decide) (by rw [w32_24]; decide) (by rw [w32_24]; rfl) (by decide) ?_
                                                      exact wL_law_934 bs D y n L xs k18_ r Gc hk18_ x3 I J _ _ _ hP hS (lv_sub hl [0, 1, 2, 3] rfl) h
                                                    · replace h := if_f w32_24 h
                                                      by_cases w32_25 : v32 = (25 : Int32)
                                                      · replace h := if_t w32_25 h
                                                        refine lv_tableIn (off := 915) (tgt := 947) hx hb dL_law_32 (by rw [w32_25]; decide) (by rw [w32_25]; decide) (by rw [w32_25]; rfl) (by decide) ?_
                                                        exact wL_law_947 bs D y n L xs k18_ r Gc hk18_ x3 I J _ _ _ hP hS (lv_sub hl [0, 1, 2, 3] rfl) h
                                                      · replace h := if_f w32_25 h
                                                        by_cases w32_26 : v32 = (26 : Int32)
                                                        · replace h := if_t w32_26 h
                                                          refine lv_tableIn (off := 928) (tgt := 960) hx hb dL_law_32 (by rw [w32_26]; decide) (by rw [w32_26]; decide) (by rw [w32_26]; rfl) (by decide) ?_
                                                          exact wL_law_960 bs D y n L xs k18_ r Gc hk18_ x3 I J _ _ _ hP hS (lv_sub hl [0, 1, 2, 3] rfl) h
                                                        · replace h := if_f w32_26 h
                                                          by_cases w32_27 : v32 = (27 : Int32)
                                                          · replace h := if_t w32_27 h
                                                            refine lv_tableIn (off := 961) (tgt := 993) hx hb dL_law_32 (by rw [w32_27]; decide) (by rw [w32_27]; decide) (by rw [w32_27]; rfl) (by decide) ?_
                                                            exact wL_law_993 bs D y n L xs k18_ r Gc hk18_ x3 I J _ _ _ hP hS (lv_sub hl [0, 1, 2, 3] rfl) h
                                                          · replace h := if_f w32_27 h
                                                            by_cases w32_28 : v32 = (28 : Int32)
                                                            · replace h := if_t w32_28 h
                                                              refine lv_tableIn (off := 1004) (tgt := 1036) hx hb dL_law_32 (by rw [w32_28]; decide) (by rw [w32_28]; decide) (by rw [w32_28]; rfl) (by decide) ?_
                                                              exact wL_law_1036 bs D y n L xs k18_ r Gc hk18_ x3 I J _ _ _ hP hS (lv_sub hl [0, 1, 2, 3] rfl) h
                                                            · replace h := if_f w32_28 h
                                                              by_cases w32_29 : v32 = (29 : Int32)
                                                              · replace h := if_t w32_29 h
                                                                refine lv_tableIn (off := 1017) (tgt := 1049) hx hb dL_law_32 (by rw [w32_29]; decide) (by rw [w32_29]; decide) (by rw [w32_29]; rfl) (by decide) ?_
                                                                exact wL_law_1049 bs D y n L xs k18_ r Gc hk18_ x3 I J _ _ _ hP hS (lv_sub hl [0, 1, 2, 3] rfl) h
                                                              · replace h := if_f w32_29 h
                                                                by_cases w32_30 : v32 = (30 : Int32)
                                                                · replace h := if_t w32_30 h
                                                                  refine lv_tableIn (off := 1030) (tgt := 1062) hx hb dL_law_32 (by rw [w32_30]; decide) (by rw [w32_30]; decide) (by rw [w32_30]; rfl) (by decide) ?_
                                                                  exact wL_law_1062 bs D y n L xs k18_ r Gc hk18_ x3 I J _ _ _ hP hS (lv_sub hl [0, 1, 2, 3] rfl) h
                                                                · replace h := if_f w32_30 h
                                                                  by_cases w32_31 : v32 = (31 : Int32)
                                                                  · replace h := if_t w32_31 h
                                                                    refine lv_tableIn (off := 1043) (tgt := 1075) hx hb dL_law_32 (by rw [w32_31]; decide) (by rw [w32_31]; decide) (by rw [w32_31]; rfl) (by decide) ?_
                                                                    exact wL_law_1075 bs D y n L xs k18_ r Gc hk18_ x3 I J _ _ _ hP hS (lv_sub hl [0, 1, 2, 3] rfl) h
                                                                  · replace h := if_f w32_31 h
                                                                    by_cases w32_32 : v32 = (32 : Int32)
                                                                    · replace h := if_t w32_32 h
                                                                      refine lv_tableIn (off := 1066) (tgt := 1098) hx hb dL_law_32 (by rw [w32_32]; decide) (by rw [w32_32]; decide) (by rw [w32_32]; rfl) (by decide) ?_
                                                                      exact wL_law_1098 bs D y n L xs k18_ r Gc hk18_ x3 I J _ _ _ hP hS (lv_sub hl [0, 1, 2, 3] rfl) h
                                                                    · replace h := if_f w32_32 h
                                                                      by_cases w32_33 : v32 = (33 : Int32)
                                                                      · replace h := if_t w32_33 h
                                                                        refine lv_tableIn (off := 1089) (tgt := 1121) hx hb dL_law_32 (by rw [w32_33]; decide) (by rw [w32_33]; decide) (by rw [w32_33]; rfl) (by decide) ?_
                                                                        exact wL_law_1121 bs D y n L xs k18_ r Gc hk18_ x3 I J _ _ _ hP hS (lv_sub hl [0, 1, 2, 3] rfl) h
                                                                      · replace h := if_f w32_33 h
                                                                        by_cases w32_34 : v32 = (34 : Int32)
                                                                        · replace h := if_t w32_34 h
                                                                          refine lv_tableIn (off := 1112) (tgt := 1144) hx hb dL_law_32 (by rw [w32_34]; decide) (by rw [w32_34]; decide) (by rw [w32_34]; rfl) (by decide) ?_
                                                                          exact wL_law_1144 bs D y n L xs k18_ r Gc hk18_ x3 I J _ _ _ hP hS (lv_sub hl [0, 1, 2, 3] rfl) h
                                                                        · replace h := if_f w32_34 h
                                                                          by_cases w32_35 : v32 = (35 : Int32)
                                                                          · replace h := if_t w32_35 h
                                                                            refine lv_tableIn (off := 1125) (tgt := 1157) hx hb dL_law_32 (by rw [w32_35]; decide) (by rw [w32_35]; decide) (by rw [w32_35]; rfl) (by decide) ?_
                                                                            exact wL_law_1157 bs D y n L xs k18_ r Gc hk18_ x3 I J _ _ _ hP hS (lv_sub hl [0, 1, 2, 3] rfl) h
                                                                          · replace h := if_f w32_35 h
                                                                            by_cases w32_36 : v32 = (36 : Int32)
                                                                            · replace h := if_t w32_36 h
                                                                              refine lv_tableIn (off := 1148) (tgt := 1180) hx hb dL_law_32 (by rw [w32_36]; decide) (by rw [w32_36]; decide) (by rw [w32_36]; rfl) (by decide) ?_
                                                                              exact wL_law_1180 bs D y n L xs k18_ r Gc hk18_ x3 I J _ _ _ hP hS (lv_sub hl [0, 1, 2, 3] rfl) h
                                                                            · replace h := if_f w32_36 h
                                                                              by_cases w32_37 : v32 = (37 : Int32)
                                                                              · replace h := if_t w32_37 h
                                                                                refine lv_tableIn (off := 1191) (tgt := 1223) hx hb dL_law_32 (by rw [w32_37]; decide) (by rw [w32_37]; decide) (by rw [w32_37]; rfl) (by decide) ?_
                                                                                exact wL_law_1223 bs D y n L xs k18_ r Gc hk18_ x3 I J _ _ _ hP hS (lv_sub hl [0, 1, 2, 3] rfl) h
                                                                              · replace h := if_f w32_37 h
                                                                                refine lv_tableOut (tgt := 1246) hx hb dL_law_32 (by have z0 := sw_ne w32_0; have z1 := sw_ne w32_1; have z2 := sw_ne w32_2; have z3 := sw_ne w32_3; have z4 := sw_ne w32_4; have z5 := sw_ne w32_5; have z6 := sw_ne w32_6; have z7 := sw_ne w32_7; have z8 := sw_ne w32_8; have z9 := sw_ne w32_9; have z10 := sw_ne w32_10; have z11 := sw_ne w32_11; have z12 := sw_ne w32_12; have z13 := sw_ne w32_13; have z14 := sw_ne w32_14; have z15 := sw_ne w32_15; have z16 := sw_ne w32_16; have z17 := sw_ne w32_17; have z18 := sw_ne w32_18; have z19 := sw_ne w32_19; have z20 := sw_ne w32_20; have z21 := sw_ne w32_21; have z22 := sw_ne w32_22; have z23 := sw_ne w32_23; have z24 := sw_ne w32_24; have z25 := sw_ne w32_25; have z26 := sw_ne w32_26; have z27 := sw_ne w32_27; have z28 := sw_ne w32_28; have z29 := sw_ne w32_29; have z30 := sw_ne w32_30; have z31 := sw_ne w32_31; have z32 := sw_ne w32_32; have z33 := sw_ne w32_33; have z34 := sw_ne w32_34; have z35 := sw_ne w32_35; have z36 := sw_ne w32_36; have z37 := sw_ne w32_37; simp only [Int32.reduceToInt] at z0 z1 z2 z3 z4 z5 z6 z7 z8 z9 z10 z11 z12 z13 z14 z15 z16 z17 z18 z19 z20 z21 z22 z23 z24 z25 z26 z27 z28 z29 z30 z31 z32 z33 z34 z35 z36 z37; omega) (by decide) ?_
                                                                                exact wL_law_1246 bs D y n L xs k18_ r Gc hk18_ x3 I J _ _ _ hP hS (lv_sub hl [0, 1, 2, 3] rfl) h
theorem vL_law_18 {p : Program} {l : Launch} {e : Env} {s : State} {m : MethodId} {b : Nat} {below : List Frame} {meth : Method} {c : Code} (bs : Nat) (D : va_G) (y : Y3) (n : Nat) (L : Nat) (xs : Nat → Int32) (r : Unit) (Gc : GL p s m meth c b L xs bs D y)  : ∀ (q : Nat) (x3 : Int32) (I : MI) (J : MJ) (H : Heap) (locs : List Loc) (ls : Array Slot), va_P D vwCl (wl bs y I J) H → va_S (FA bs) s.heap H locs → lv_has ls 4 [(0, .ref b), (1, .ref (bs + 0)), (2, .ref (bs + 44)), (3, .int x3)] → lL_law_18 n L xs  q x3 I J = some r → W p l e room_1 s m #[Value.ref b] below meth c H locs 76 8771 (lw_Z below #[Value.ref b] s) (F0 m 18 ls []) := by
  intro q
  induction q with
  | zero =>
    intro x3 I J H locs ls hP hS hl h
    have h : (none : Option (Unit)) = some r := h
    cases h
  | succ q ih =>
    intro x3 I J H locs ls hP hS hl h
    have h : fL_law_18 n L xs  (lL_law_18 n L xs  q) x3 I J = some r := h
    exact wL_law_18 bs D y n L xs  (lL_law_18 n L xs  q) r Gc  ih x3 I J H locs ls hP hS hl h
