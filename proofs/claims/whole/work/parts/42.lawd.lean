/-! the law from its loop's head on (printed by wip/whole/lawgen2.py) -/
theorem d_LW_law_23 : decode code 23 = .ok (.iload 4, 2) := by decide +kernel
theorem d_LW_law_25 : decode code 25 = .ok (.aload_n 0, 1) := by decide +kernel
theorem d_LW_law_26 : decode code 26 = .ok (.arraylength, 1) := by decide +kernel
theorem d_LW_law_27 : decode code 27 = .ok (.iconst 4, 1) := by decide +kernel
theorem d_LW_law_28 : decode code 28 = .ok (.isub, 1) := by decide +kernel
theorem d_LW_law_29 : decode code 29 = .ok (.if_icmp .gt 1941, 3) := by decide +kernel
theorem d_LW_law_32 : decode code 32 = .ok (.aload_n 0, 1) := by decide +kernel
theorem d_LW_law_33 : decode code 33 = .ok (.iload 4, 2) := by decide +kernel
theorem d_LW_law_35 : decode code 35 = .ok (.iaload, 1) := by decide +kernel
theorem d_LW_law_36 : decode code 36 = .ok (.bipush 31, 2) := by decide +kernel
theorem d_LW_law_38 : decode code 38 = .ok (.iand, 1) := by decide +kernel
theorem d_LW_law_39 : decode code 39 = .ok (.tableswitch 1925 0 30 #[137, 193, 206, 219, 263, 319, 399, 479, 559, 615, 683, 763, 831, 887, 931, 975, 1043, 1111, 1179, 1223, 1291, 1304, 1317, 1373, 1452, 1520, 1533, 1613, 1713, 1813, 1869], 137) := by decide +kernel
theorem d_LW_law_176 : decode code 176 = .ok (.aload_n 1, 1) := by decide +kernel
theorem d_LW_law_177 : decode code 177 = .ok (.aload_n 0, 1) := by decide +kernel
theorem d_LW_law_178 : decode code 178 = .ok (.iload 4, 2) := by decide +kernel
theorem d_LW_law_180 : decode code 180 = .ok (.iconst 1, 1) := by decide +kernel
theorem d_LW_law_181 : decode code 181 = .ok (.iadd, 1) := by decide +kernel
theorem d_LW_law_182 : decode code 182 = .ok (.iaload, 1) := by decide +kernel
theorem d_LW_law_183 : decode code 183 = .ok (.aload_n 3, 1) := by decide +kernel
theorem d_LW_law_184 : decode code 184 = .ok (.invokestatic 104, 3) := by decide +kernel
theorem d_LW_law_187 : decode code 187 = .ok (.istore 5, 2) := by decide +kernel
theorem d_LW_law_189 : decode code 189 = .ok (.aload_n 2, 1) := by decide +kernel
theorem d_LW_law_190 : decode code 190 = .ok (.aload_n 0, 1) := by decide +kernel
theorem d_LW_law_191 : decode code 191 = .ok (.iload 4, 2) := by decide +kernel
theorem d_LW_law_193 : decode code 193 = .ok (.iconst 1, 1) := by decide +kernel
theorem d_LW_law_194 : decode code 194 = .ok (.iadd, 1) := by decide +kernel
theorem d_LW_law_195 : decode code 195 = .ok (.iaload, 1) := by decide +kernel
theorem d_LW_law_196 : decode code 196 = .ok (.invokevirtual 109, 3) := by decide +kernel
theorem d_LW_law_199 : decode code 199 = .ok (.istore 6, 2) := by decide +kernel
theorem d_LW_law_201 : decode code 201 = .ok (.aload_n 2, 1) := by decide +kernel
theorem d_LW_law_202 : decode code 202 = .ok (.invokevirtual 110, 3) := by decide +kernel
theorem d_LW_law_205 : decode code 205 = .ok (.iload 5, 2) := by decide +kernel
theorem d_LW_law_207 : decode code 207 = .ok (.if_icmp .eq 5, 3) := by decide +kernel
theorem d_LW_law_210 : decode code 210 = .ok (.iconst 0, 1) := by decide +kernel
theorem d_LW_law_211 : decode code 211 = .ok (.ireturn, 1) := by decide +kernel
theorem d_LW_law_212 : decode code 212 = .ok (.iload 5, 2) := by decide +kernel
theorem d_LW_law_214 : decode code 214 = .ok (.ifCond .ne 15, 3) := by decide +kernel
theorem d_LW_law_217 : decode code 217 = .ok (.aload_n 3, 1) := by decide +kernel
theorem d_LW_law_218 : decode code 218 = .ok (.iconst 0, 1) := by decide +kernel
theorem d_LW_law_219 : decode code 219 = .ok (.laload, 1) := by decide +kernel
theorem d_LW_law_220 : decode code 220 = .ok (.iload 6, 2) := by decide +kernel
theorem d_LW_law_222 : decode code 222 = .ok (.i2l, 1) := by decide +kernel
theorem d_LW_law_223 : decode code 223 = .ok (.lcmp, 1) := by decide +kernel
theorem d_LW_law_224 : decode code 224 = .ok (.ifCond .eq 5, 3) := by decide +kernel
theorem d_LW_law_227 : decode code 227 = .ok (.iconst 0, 1) := by decide +kernel
theorem d_LW_law_228 : decode code 228 = .ok (.ireturn, 1) := by decide +kernel
theorem d_LW_law_229 : decode code 229 = .ok (.goto 1735, 3) := by decide +kernel
theorem d_LW_law_232 : decode code 232 = .ok (.aload_n 1, 1) := by decide +kernel
theorem d_LW_law_233 : decode code 233 = .ok (.invokevirtual 113, 3) := by decide +kernel
theorem d_LW_law_236 : decode code 236 = .ok (.aload_n 2, 1) := by decide +kernel
theorem d_LW_law_237 : decode code 237 = .ok (.invokevirtual 116, 3) := by decide +kernel
theorem d_LW_law_240 : decode code 240 = .ok (.if_icmp .eq 1724, 3) := by decide +kernel
theorem d_LW_law_243 : decode code 243 = .ok (.iconst 0, 1) := by decide +kernel
theorem d_LW_law_244 : decode code 244 = .ok (.ireturn, 1) := by decide +kernel
theorem d_LW_law_245 : decode code 245 = .ok (.aload_n 1, 1) := by decide +kernel
theorem d_LW_law_246 : decode code 246 = .ok (.invokevirtual 117, 3) := by decide +kernel
theorem d_LW_law_249 : decode code 249 = .ok (.aload_n 2, 1) := by decide +kernel
theorem d_LW_law_250 : decode code 250 = .ok (.invokevirtual 120, 3) := by decide +kernel
theorem d_LW_law_253 : decode code 253 = .ok (.if_icmp .eq 1711, 3) := by decide +kernel
theorem d_LW_law_256 : decode code 256 = .ok (.iconst 0, 1) := by decide +kernel
theorem d_LW_law_257 : decode code 257 = .ok (.ireturn, 1) := by decide +kernel
theorem d_LW_law_258 : decode code 258 = .ok (.aload_n 1, 1) := by decide +kernel
theorem d_LW_law_259 : decode code 259 = .ok (.aload_n 3, 1) := by decide +kernel
theorem d_LW_law_260 : decode code 260 = .ok (.invokestatic 121, 3) := by decide +kernel
theorem d_LW_law_263 : decode code 263 = .ok (.istore 5, 2) := by decide +kernel
theorem d_LW_law_265 : decode code 265 = .ok (.aload_n 2, 1) := by decide +kernel
theorem d_LW_law_266 : decode code 266 = .ok (.invokevirtual 124, 3) := by decide +kernel
theorem d_LW_law_269 : decode code 269 = .ok (.istore 6, 2) := by decide +kernel
theorem d_LW_law_271 : decode code 271 = .ok (.aload_n 2, 1) := by decide +kernel
theorem d_LW_law_272 : decode code 272 = .ok (.invokevirtual 110, 3) := by decide +kernel
theorem d_LW_law_275 : decode code 275 = .ok (.iload 5, 2) := by decide +kernel
theorem d_LW_law_277 : decode code 277 = .ok (.if_icmp .eq 5, 3) := by decide +kernel
theorem d_LW_law_280 : decode code 280 = .ok (.iconst 0, 1) := by decide +kernel
theorem d_LW_law_281 : decode code 281 = .ok (.ireturn, 1) := by decide +kernel
theorem d_LW_law_282 : decode code 282 = .ok (.iload 5, 2) := by decide +kernel
theorem d_LW_law_284 : decode code 284 = .ok (.ifCond .ne 15, 3) := by decide +kernel
theorem d_LW_law_287 : decode code 287 = .ok (.aload_n 3, 1) := by decide +kernel
theorem d_LW_law_288 : decode code 288 = .ok (.iconst 0, 1) := by decide +kernel
theorem d_LW_law_289 : decode code 289 = .ok (.laload, 1) := by decide +kernel
theorem d_LW_law_290 : decode code 290 = .ok (.iload 6, 2) := by decide +kernel
theorem d_LW_law_292 : decode code 292 = .ok (.i2l, 1) := by decide +kernel
theorem d_LW_law_293 : decode code 293 = .ok (.lcmp, 1) := by decide +kernel
theorem d_LW_law_294 : decode code 294 = .ok (.ifCond .eq 5, 3) := by decide +kernel
theorem d_LW_law_297 : decode code 297 = .ok (.iconst 0, 1) := by decide +kernel
theorem d_LW_law_298 : decode code 298 = .ok (.ireturn, 1) := by decide +kernel
theorem d_LW_law_299 : decode code 299 = .ok (.goto 1665, 3) := by decide +kernel
theorem d_LW_law_302 : decode code 302 = .ok (.aload_n 1, 1) := by decide +kernel
theorem d_LW_law_303 : decode code 303 = .ok (.aload_n 0, 1) := by decide +kernel
theorem d_LW_law_304 : decode code 304 = .ok (.iload 4, 2) := by decide +kernel
theorem d_LW_law_306 : decode code 306 = .ok (.iconst 1, 1) := by decide +kernel
theorem d_LW_law_307 : decode code 307 = .ok (.iadd, 1) := by decide +kernel
theorem d_LW_law_308 : decode code 308 = .ok (.iaload, 1) := by decide +kernel
theorem d_LW_law_309 : decode code 309 = .ok (.aload_n 3, 1) := by decide +kernel
theorem d_LW_law_310 : decode code 310 = .ok (.invokestatic 125, 3) := by decide +kernel
theorem d_LW_law_313 : decode code 313 = .ok (.istore 5, 2) := by decide +kernel
theorem d_LW_law_315 : decode code 315 = .ok (.aload_n 2, 1) := by decide +kernel
theorem d_LW_law_316 : decode code 316 = .ok (.aload_n 0, 1) := by decide +kernel
theorem d_LW_law_317 : decode code 317 = .ok (.iload 4, 2) := by decide +kernel
theorem d_LW_law_319 : decode code 319 = .ok (.iconst 1, 1) := by decide +kernel
theorem d_LW_law_320 : decode code 320 = .ok (.iadd, 1) := by decide +kernel
theorem d_LW_law_321 : decode code 321 = .ok (.iaload, 1) := by decide +kernel
theorem d_LW_law_322 : decode code 322 = .ok (.invokevirtual 127, 3) := by decide +kernel
theorem d_LW_law_325 : decode code 325 = .ok (.istore 6, 2) := by decide +kernel
theorem d_LW_law_327 : decode code 327 = .ok (.aload_n 2, 1) := by decide +kernel
theorem d_LW_law_328 : decode code 328 = .ok (.invokevirtual 110, 3) := by decide +kernel
theorem d_LW_law_331 : decode code 331 = .ok (.iload 5, 2) := by decide +kernel
theorem d_LW_law_333 : decode code 333 = .ok (.if_icmp .eq 5, 3) := by decide +kernel
theorem d_LW_law_336 : decode code 336 = .ok (.iconst 0, 1) := by decide +kernel
theorem d_LW_law_337 : decode code 337 = .ok (.ireturn, 1) := by decide +kernel
theorem d_LW_law_338 : decode code 338 = .ok (.iload 5, 2) := by decide +kernel
theorem d_LW_law_340 : decode code 340 = .ok (.ifCond .ne 15, 3) := by decide +kernel
theorem d_LW_law_343 : decode code 343 = .ok (.aload_n 3, 1) := by decide +kernel
theorem d_LW_law_344 : decode code 344 = .ok (.iconst 0, 1) := by decide +kernel
theorem d_LW_law_345 : decode code 345 = .ok (.laload, 1) := by decide +kernel
theorem d_LW_law_346 : decode code 346 = .ok (.iload 6, 2) := by decide +kernel
theorem d_LW_law_348 : decode code 348 = .ok (.i2l, 1) := by decide +kernel
theorem d_LW_law_349 : decode code 349 = .ok (.lcmp, 1) := by decide +kernel
theorem d_LW_law_350 : decode code 350 = .ok (.ifCond .eq 5, 3) := by decide +kernel
theorem d_LW_law_353 : decode code 353 = .ok (.iconst 0, 1) := by decide +kernel
theorem d_LW_law_354 : decode code 354 = .ok (.ireturn, 1) := by decide +kernel
theorem d_LW_law_355 : decode code 355 = .ok (.goto 1609, 3) := by decide +kernel
theorem d_LW_law_358 : decode code 358 = .ok (.aload_n 1, 1) := by decide +kernel
theorem d_LW_law_359 : decode code 359 = .ok (.aload_n 0, 1) := by decide +kernel
theorem d_LW_law_360 : decode code 360 = .ok (.iload 4, 2) := by decide +kernel
theorem d_LW_law_362 : decode code 362 = .ok (.iconst 1, 1) := by decide +kernel
theorem d_LW_law_363 : decode code 363 = .ok (.iadd, 1) := by decide +kernel
theorem d_LW_law_364 : decode code 364 = .ok (.iaload, 1) := by decide +kernel
theorem d_LW_law_365 : decode code 365 = .ok (.aload_n 0, 1) := by decide +kernel
theorem d_LW_law_366 : decode code 366 = .ok (.iload 4, 2) := by decide +kernel
theorem d_LW_law_368 : decode code 368 = .ok (.iconst 2, 1) := by decide +kernel
theorem d_LW_law_369 : decode code 369 = .ok (.iadd, 1) := by decide +kernel
theorem d_LW_law_370 : decode code 370 = .ok (.iaload, 1) := by decide +kernel
theorem d_LW_law_371 : decode code 371 = .ok (.aload_n 0, 1) := by decide +kernel
theorem d_LW_law_372 : decode code 372 = .ok (.iload 4, 2) := by decide +kernel
theorem d_LW_law_374 : decode code 374 = .ok (.iconst 3, 1) := by decide +kernel
theorem d_LW_law_375 : decode code 375 = .ok (.iadd, 1) := by decide +kernel
theorem d_LW_law_376 : decode code 376 = .ok (.iaload, 1) := by decide +kernel
theorem d_LW_law_377 : decode code 377 = .ok (.aload_n 3, 1) := by decide +kernel
theorem d_LW_law_378 : decode code 378 = .ok (.invokestatic 128, 3) := by decide +kernel
theorem d_LW_law_381 : decode code 381 = .ok (.istore 5, 2) := by decide +kernel
theorem d_LW_law_383 : decode code 383 = .ok (.aload_n 2, 1) := by decide +kernel
theorem d_LW_law_384 : decode code 384 = .ok (.aload_n 0, 1) := by decide +kernel
theorem d_LW_law_385 : decode code 385 = .ok (.iload 4, 2) := by decide +kernel
theorem d_LW_law_387 : decode code 387 = .ok (.iconst 1, 1) := by decide +kernel
theorem d_LW_law_388 : decode code 388 = .ok (.iadd, 1) := by decide +kernel
theorem d_LW_law_389 : decode code 389 = .ok (.iaload, 1) := by decide +kernel
theorem d_LW_law_390 : decode code 390 = .ok (.aload_n 0, 1) := by decide +kernel
theorem d_LW_law_391 : decode code 391 = .ok (.iload 4, 2) := by decide +kernel
theorem d_LW_law_393 : decode code 393 = .ok (.iconst 2, 1) := by decide +kernel
theorem d_LW_law_394 : decode code 394 = .ok (.iadd, 1) := by decide +kernel
theorem d_LW_law_395 : decode code 395 = .ok (.iaload, 1) := by decide +kernel
theorem d_LW_law_396 : decode code 396 = .ok (.aload_n 0, 1) := by decide +kernel
theorem d_LW_law_397 : decode code 397 = .ok (.iload 4, 2) := by decide +kernel
theorem d_LW_law_399 : decode code 399 = .ok (.iconst 3, 1) := by decide +kernel
theorem d_LW_law_400 : decode code 400 = .ok (.iadd, 1) := by decide +kernel
theorem d_LW_law_401 : decode code 401 = .ok (.iaload, 1) := by decide +kernel
theorem d_LW_law_402 : decode code 402 = .ok (.invokevirtual 131, 3) := by decide +kernel
theorem d_LW_law_405 : decode code 405 = .ok (.istore 6, 2) := by decide +kernel
theorem d_LW_law_407 : decode code 407 = .ok (.aload_n 2, 1) := by decide +kernel
theorem d_LW_law_408 : decode code 408 = .ok (.invokevirtual 110, 3) := by decide +kernel
theorem d_LW_law_411 : decode code 411 = .ok (.iload 5, 2) := by decide +kernel
theorem d_LW_law_413 : decode code 413 = .ok (.if_icmp .eq 5, 3) := by decide +kernel
theorem d_LW_law_416 : decode code 416 = .ok (.iconst 0, 1) := by decide +kernel
theorem d_LW_law_417 : decode code 417 = .ok (.ireturn, 1) := by decide +kernel
theorem d_LW_law_418 : decode code 418 = .ok (.iload 5, 2) := by decide +kernel
theorem d_LW_law_420 : decode code 420 = .ok (.ifCond .ne 15, 3) := by decide +kernel
theorem d_LW_law_423 : decode code 423 = .ok (.aload_n 3, 1) := by decide +kernel
theorem d_LW_law_424 : decode code 424 = .ok (.iconst 0, 1) := by decide +kernel
theorem d_LW_law_425 : decode code 425 = .ok (.laload, 1) := by decide +kernel
theorem d_LW_law_426 : decode code 426 = .ok (.iload 6, 2) := by decide +kernel
theorem d_LW_law_428 : decode code 428 = .ok (.i2l, 1) := by decide +kernel
theorem d_LW_law_429 : decode code 429 = .ok (.lcmp, 1) := by decide +kernel
theorem d_LW_law_430 : decode code 430 = .ok (.ifCond .eq 5, 3) := by decide +kernel
theorem d_LW_law_433 : decode code 433 = .ok (.iconst 0, 1) := by decide +kernel
theorem d_LW_law_434 : decode code 434 = .ok (.ireturn, 1) := by decide +kernel
theorem d_LW_law_435 : decode code 435 = .ok (.goto 1529, 3) := by decide +kernel
theorem d_LW_law_438 : decode code 438 = .ok (.aload_n 1, 1) := by decide +kernel
theorem d_LW_law_439 : decode code 439 = .ok (.aload_n 0, 1) := by decide +kernel
theorem d_LW_law_440 : decode code 440 = .ok (.iload 4, 2) := by decide +kernel
theorem d_LW_law_442 : decode code 442 = .ok (.iconst 1, 1) := by decide +kernel
theorem d_LW_law_443 : decode code 443 = .ok (.iadd, 1) := by decide +kernel
theorem d_LW_law_444 : decode code 444 = .ok (.iaload, 1) := by decide +kernel
theorem d_LW_law_445 : decode code 445 = .ok (.aload_n 0, 1) := by decide +kernel
theorem d_LW_law_446 : decode code 446 = .ok (.iload 4, 2) := by decide +kernel
theorem d_LW_law_448 : decode code 448 = .ok (.iconst 2, 1) := by decide +kernel
theorem d_LW_law_449 : decode code 449 = .ok (.iadd, 1) := by decide +kernel
theorem d_LW_law_450 : decode code 450 = .ok (.iaload, 1) := by decide +kernel
theorem d_LW_law_451 : decode code 451 = .ok (.aload_n 0, 1) := by decide +kernel
theorem d_LW_law_452 : decode code 452 = .ok (.iload 4, 2) := by decide +kernel
theorem d_LW_law_454 : decode code 454 = .ok (.iconst 3, 1) := by decide +kernel
theorem d_LW_law_455 : decode code 455 = .ok (.iadd, 1) := by decide +kernel
theorem d_LW_law_456 : decode code 456 = .ok (.iaload, 1) := by decide +kernel
theorem d_LW_law_457 : decode code 457 = .ok (.aload_n 3, 1) := by decide +kernel
theorem d_LW_law_458 : decode code 458 = .ok (.invokestatic 132, 3) := by decide +kernel
theorem d_LW_law_461 : decode code 461 = .ok (.istore 5, 2) := by decide +kernel
theorem d_LW_law_463 : decode code 463 = .ok (.aload_n 2, 1) := by decide +kernel
theorem d_LW_law_464 : decode code 464 = .ok (.aload_n 0, 1) := by decide +kernel
theorem d_LW_law_465 : decode code 465 = .ok (.iload 4, 2) := by decide +kernel
theorem d_LW_law_467 : decode code 467 = .ok (.iconst 1, 1) := by decide +kernel
theorem d_LW_law_468 : decode code 468 = .ok (.iadd, 1) := by decide +kernel
theorem d_LW_law_469 : decode code 469 = .ok (.iaload, 1) := by decide +kernel
theorem d_LW_law_470 : decode code 470 = .ok (.aload_n 0, 1) := by decide +kernel
theorem d_LW_law_471 : decode code 471 = .ok (.iload 4, 2) := by decide +kernel
theorem d_LW_law_473 : decode code 473 = .ok (.iconst 2, 1) := by decide +kernel
theorem d_LW_law_474 : decode code 474 = .ok (.iadd, 1) := by decide +kernel
theorem d_LW_law_475 : decode code 475 = .ok (.iaload, 1) := by decide +kernel
theorem d_LW_law_476 : decode code 476 = .ok (.aload_n 0, 1) := by decide +kernel
theorem d_LW_law_477 : decode code 477 = .ok (.iload 4, 2) := by decide +kernel
theorem d_LW_law_479 : decode code 479 = .ok (.iconst 3, 1) := by decide +kernel
theorem d_LW_law_480 : decode code 480 = .ok (.iadd, 1) := by decide +kernel
theorem d_LW_law_481 : decode code 481 = .ok (.iaload, 1) := by decide +kernel
theorem d_LW_law_482 : decode code 482 = .ok (.invokevirtual 134, 3) := by decide +kernel
theorem d_LW_law_485 : decode code 485 = .ok (.istore 6, 2) := by decide +kernel
theorem d_LW_law_487 : decode code 487 = .ok (.aload_n 2, 1) := by decide +kernel
theorem d_LW_law_488 : decode code 488 = .ok (.invokevirtual 110, 3) := by decide +kernel
theorem d_LW_law_491 : decode code 491 = .ok (.iload 5, 2) := by decide +kernel
theorem d_LW_law_493 : decode code 493 = .ok (.if_icmp .eq 5, 3) := by decide +kernel
theorem d_LW_law_496 : decode code 496 = .ok (.iconst 0, 1) := by decide +kernel
theorem d_LW_law_497 : decode code 497 = .ok (.ireturn, 1) := by decide +kernel
theorem d_LW_law_498 : decode code 498 = .ok (.iload 5, 2) := by decide +kernel
theorem d_LW_law_500 : decode code 500 = .ok (.ifCond .ne 15, 3) := by decide +kernel
theorem d_LW_law_503 : decode code 503 = .ok (.aload_n 3, 1) := by decide +kernel
theorem d_LW_law_504 : decode code 504 = .ok (.iconst 0, 1) := by decide +kernel
theorem d_LW_law_505 : decode code 505 = .ok (.laload, 1) := by decide +kernel
theorem d_LW_law_506 : decode code 506 = .ok (.iload 6, 2) := by decide +kernel
theorem d_LW_law_508 : decode code 508 = .ok (.i2l, 1) := by decide +kernel
theorem d_LW_law_509 : decode code 509 = .ok (.lcmp, 1) := by decide +kernel
theorem d_LW_law_510 : decode code 510 = .ok (.ifCond .eq 5, 3) := by decide +kernel
theorem d_LW_law_513 : decode code 513 = .ok (.iconst 0, 1) := by decide +kernel
theorem d_LW_law_514 : decode code 514 = .ok (.ireturn, 1) := by decide +kernel
theorem d_LW_law_515 : decode code 515 = .ok (.goto 1449, 3) := by decide +kernel
theorem d_LW_law_518 : decode code 518 = .ok (.aload_n 1, 1) := by decide +kernel
theorem d_LW_law_519 : decode code 519 = .ok (.aload_n 0, 1) := by decide +kernel
theorem d_LW_law_520 : decode code 520 = .ok (.iload 4, 2) := by decide +kernel
theorem d_LW_law_522 : decode code 522 = .ok (.iconst 1, 1) := by decide +kernel
theorem d_LW_law_523 : decode code 523 = .ok (.iadd, 1) := by decide +kernel
theorem d_LW_law_524 : decode code 524 = .ok (.iaload, 1) := by decide +kernel
theorem d_LW_law_525 : decode code 525 = .ok (.aload_n 0, 1) := by decide +kernel
theorem d_LW_law_526 : decode code 526 = .ok (.iload 4, 2) := by decide +kernel
theorem d_LW_law_528 : decode code 528 = .ok (.iconst 2, 1) := by decide +kernel
theorem d_LW_law_529 : decode code 529 = .ok (.iadd, 1) := by decide +kernel
theorem d_LW_law_530 : decode code 530 = .ok (.iaload, 1) := by decide +kernel
theorem d_LW_law_531 : decode code 531 = .ok (.aload_n 0, 1) := by decide +kernel
theorem d_LW_law_532 : decode code 532 = .ok (.iload 4, 2) := by decide +kernel
theorem d_LW_law_534 : decode code 534 = .ok (.iconst 3, 1) := by decide +kernel
theorem d_LW_law_535 : decode code 535 = .ok (.iadd, 1) := by decide +kernel
theorem d_LW_law_536 : decode code 536 = .ok (.iaload, 1) := by decide +kernel
theorem d_LW_law_537 : decode code 537 = .ok (.aload_n 3, 1) := by decide +kernel
theorem d_LW_law_538 : decode code 538 = .ok (.invokestatic 135, 3) := by decide +kernel
theorem d_LW_law_541 : decode code 541 = .ok (.istore 5, 2) := by decide +kernel
theorem d_LW_law_543 : decode code 543 = .ok (.aload_n 2, 1) := by decide +kernel
theorem d_LW_law_544 : decode code 544 = .ok (.aload_n 0, 1) := by decide +kernel
theorem d_LW_law_545 : decode code 545 = .ok (.iload 4, 2) := by decide +kernel
theorem d_LW_law_547 : decode code 547 = .ok (.iconst 1, 1) := by decide +kernel
theorem d_LW_law_548 : decode code 548 = .ok (.iadd, 1) := by decide +kernel
theorem d_LW_law_549 : decode code 549 = .ok (.iaload, 1) := by decide +kernel
theorem d_LW_law_550 : decode code 550 = .ok (.aload_n 0, 1) := by decide +kernel
theorem d_LW_law_551 : decode code 551 = .ok (.iload 4, 2) := by decide +kernel
theorem d_LW_law_553 : decode code 553 = .ok (.iconst 2, 1) := by decide +kernel
theorem d_LW_law_554 : decode code 554 = .ok (.iadd, 1) := by decide +kernel
theorem d_LW_law_555 : decode code 555 = .ok (.iaload, 1) := by decide +kernel
theorem d_LW_law_556 : decode code 556 = .ok (.aload_n 0, 1) := by decide +kernel
theorem d_LW_law_557 : decode code 557 = .ok (.iload 4, 2) := by decide +kernel
theorem d_LW_law_559 : decode code 559 = .ok (.iconst 3, 1) := by decide +kernel
theorem d_LW_law_560 : decode code 560 = .ok (.iadd, 1) := by decide +kernel
theorem d_LW_law_561 : decode code 561 = .ok (.iaload, 1) := by decide +kernel
theorem d_LW_law_562 : decode code 562 = .ok (.invokevirtual 137, 3) := by decide +kernel
theorem d_LW_law_565 : decode code 565 = .ok (.istore 6, 2) := by decide +kernel
theorem d_LW_law_567 : decode code 567 = .ok (.aload_n 2, 1) := by decide +kernel
theorem d_LW_law_568 : decode code 568 = .ok (.invokevirtual 110, 3) := by decide +kernel
theorem d_LW_law_571 : decode code 571 = .ok (.iload 5, 2) := by decide +kernel
theorem d_LW_law_573 : decode code 573 = .ok (.if_icmp .eq 5, 3) := by decide +kernel
theorem d_LW_law_576 : decode code 576 = .ok (.iconst 0, 1) := by decide +kernel
theorem d_LW_law_577 : decode code 577 = .ok (.ireturn, 1) := by decide +kernel
theorem d_LW_law_578 : decode code 578 = .ok (.iload 5, 2) := by decide +kernel
theorem d_LW_law_580 : decode code 580 = .ok (.ifCond .ne 15, 3) := by decide +kernel
theorem d_LW_law_583 : decode code 583 = .ok (.aload_n 3, 1) := by decide +kernel
theorem d_LW_law_584 : decode code 584 = .ok (.iconst 0, 1) := by decide +kernel
theorem d_LW_law_585 : decode code 585 = .ok (.laload, 1) := by decide +kernel
theorem d_LW_law_586 : decode code 586 = .ok (.iload 6, 2) := by decide +kernel
theorem d_LW_law_588 : decode code 588 = .ok (.i2l, 1) := by decide +kernel
theorem d_LW_law_589 : decode code 589 = .ok (.lcmp, 1) := by decide +kernel
theorem d_LW_law_590 : decode code 590 = .ok (.ifCond .eq 5, 3) := by decide +kernel
theorem d_LW_law_593 : decode code 593 = .ok (.iconst 0, 1) := by decide +kernel
theorem d_LW_law_594 : decode code 594 = .ok (.ireturn, 1) := by decide +kernel
theorem d_LW_law_595 : decode code 595 = .ok (.goto 1369, 3) := by decide +kernel
theorem d_LW_law_598 : decode code 598 = .ok (.aload_n 1, 1) := by decide +kernel
theorem d_LW_law_599 : decode code 599 = .ok (.aload_n 0, 1) := by decide +kernel
theorem d_LW_law_600 : decode code 600 = .ok (.iload 4, 2) := by decide +kernel
theorem d_LW_law_602 : decode code 602 = .ok (.iconst 1, 1) := by decide +kernel
theorem d_LW_law_603 : decode code 603 = .ok (.iadd, 1) := by decide +kernel
theorem d_LW_law_604 : decode code 604 = .ok (.iaload, 1) := by decide +kernel
theorem d_LW_law_605 : decode code 605 = .ok (.aload_n 3, 1) := by decide +kernel
theorem d_LW_law_606 : decode code 606 = .ok (.invokestatic 138, 3) := by decide +kernel
theorem d_LW_law_609 : decode code 609 = .ok (.istore 5, 2) := by decide +kernel
theorem d_LW_law_611 : decode code 611 = .ok (.aload_n 2, 1) := by decide +kernel
theorem d_LW_law_612 : decode code 612 = .ok (.aload_n 0, 1) := by decide +kernel
theorem d_LW_law_613 : decode code 613 = .ok (.iload 4, 2) := by decide +kernel
theorem d_LW_law_615 : decode code 615 = .ok (.iconst 1, 1) := by decide +kernel
theorem d_LW_law_616 : decode code 616 = .ok (.iadd, 1) := by decide +kernel
theorem d_LW_law_617 : decode code 617 = .ok (.iaload, 1) := by decide +kernel
theorem d_LW_law_618 : decode code 618 = .ok (.invokevirtual 140, 3) := by decide +kernel
theorem d_LW_law_621 : decode code 621 = .ok (.istore 6, 2) := by decide +kernel
theorem d_LW_law_623 : decode code 623 = .ok (.aload_n 2, 1) := by decide +kernel
theorem d_LW_law_624 : decode code 624 = .ok (.invokevirtual 110, 3) := by decide +kernel
theorem d_LW_law_627 : decode code 627 = .ok (.iload 5, 2) := by decide +kernel
theorem d_LW_law_629 : decode code 629 = .ok (.if_icmp .eq 5, 3) := by decide +kernel
theorem d_LW_law_632 : decode code 632 = .ok (.iconst 0, 1) := by decide +kernel
theorem d_LW_law_633 : decode code 633 = .ok (.ireturn, 1) := by decide +kernel
theorem d_LW_law_634 : decode code 634 = .ok (.iload 5, 2) := by decide +kernel
theorem d_LW_law_636 : decode code 636 = .ok (.ifCond .ne 15, 3) := by decide +kernel
theorem d_LW_law_639 : decode code 639 = .ok (.aload_n 3, 1) := by decide +kernel
theorem d_LW_law_640 : decode code 640 = .ok (.iconst 0, 1) := by decide +kernel
theorem d_LW_law_641 : decode code 641 = .ok (.laload, 1) := by decide +kernel
theorem d_LW_law_642 : decode code 642 = .ok (.iload 6, 2) := by decide +kernel
theorem d_LW_law_644 : decode code 644 = .ok (.i2l, 1) := by decide +kernel
theorem d_LW_law_645 : decode code 645 = .ok (.lcmp, 1) := by decide +kernel
theorem d_LW_law_646 : decode code 646 = .ok (.ifCond .eq 5, 3) := by decide +kernel
theorem d_LW_law_649 : decode code 649 = .ok (.iconst 0, 1) := by decide +kernel
theorem d_LW_law_650 : decode code 650 = .ok (.ireturn, 1) := by decide +kernel
theorem d_LW_law_651 : decode code 651 = .ok (.goto 1313, 3) := by decide +kernel
theorem d_LW_law_654 : decode code 654 = .ok (.aload_n 1, 1) := by decide +kernel
theorem d_LW_law_655 : decode code 655 = .ok (.aload_n 0, 1) := by decide +kernel
theorem d_LW_law_656 : decode code 656 = .ok (.iload 4, 2) := by decide +kernel
theorem d_LW_law_658 : decode code 658 = .ok (.iconst 1, 1) := by decide +kernel
theorem d_LW_law_659 : decode code 659 = .ok (.iadd, 1) := by decide +kernel
theorem d_LW_law_660 : decode code 660 = .ok (.iaload, 1) := by decide +kernel
theorem d_LW_law_661 : decode code 661 = .ok (.aload_n 0, 1) := by decide +kernel
theorem d_LW_law_662 : decode code 662 = .ok (.iload 4, 2) := by decide +kernel
theorem d_LW_law_664 : decode code 664 = .ok (.iconst 2, 1) := by decide +kernel
theorem d_LW_law_665 : decode code 665 = .ok (.iadd, 1) := by decide +kernel
theorem d_LW_law_666 : decode code 666 = .ok (.iaload, 1) := by decide +kernel
theorem d_LW_law_667 : decode code 667 = .ok (.aload_n 3, 1) := by decide +kernel
theorem d_LW_law_668 : decode code 668 = .ok (.invokestatic 141, 3) := by decide +kernel
theorem d_LW_law_671 : decode code 671 = .ok (.istore 5, 2) := by decide +kernel
theorem d_LW_law_673 : decode code 673 = .ok (.aload_n 2, 1) := by decide +kernel
theorem d_LW_law_674 : decode code 674 = .ok (.aload_n 0, 1) := by decide +kernel
theorem d_LW_law_675 : decode code 675 = .ok (.iload 4, 2) := by decide +kernel
theorem d_LW_law_677 : decode code 677 = .ok (.iconst 1, 1) := by decide +kernel
theorem d_LW_law_678 : decode code 678 = .ok (.iadd, 1) := by decide +kernel
theorem d_LW_law_679 : decode code 679 = .ok (.iaload, 1) := by decide +kernel
theorem d_LW_law_680 : decode code 680 = .ok (.aload_n 0, 1) := by decide +kernel
theorem d_LW_law_681 : decode code 681 = .ok (.iload 4, 2) := by decide +kernel
theorem d_LW_law_683 : decode code 683 = .ok (.iconst 2, 1) := by decide +kernel
theorem d_LW_law_684 : decode code 684 = .ok (.iadd, 1) := by decide +kernel
theorem d_LW_law_685 : decode code 685 = .ok (.iaload, 1) := by decide +kernel
theorem d_LW_law_686 : decode code 686 = .ok (.invokevirtual 144, 3) := by decide +kernel
theorem d_LW_law_689 : decode code 689 = .ok (.istore 6, 2) := by decide +kernel
theorem d_LW_law_691 : decode code 691 = .ok (.aload_n 2, 1) := by decide +kernel
theorem d_LW_law_692 : decode code 692 = .ok (.invokevirtual 110, 3) := by decide +kernel
theorem d_LW_law_695 : decode code 695 = .ok (.iload 5, 2) := by decide +kernel
theorem d_LW_law_697 : decode code 697 = .ok (.if_icmp .eq 5, 3) := by decide +kernel
theorem d_LW_law_700 : decode code 700 = .ok (.iconst 0, 1) := by decide +kernel
theorem d_LW_law_701 : decode code 701 = .ok (.ireturn, 1) := by decide +kernel
theorem d_LW_law_702 : decode code 702 = .ok (.iload 5, 2) := by decide +kernel
theorem d_LW_law_704 : decode code 704 = .ok (.ifCond .ne 15, 3) := by decide +kernel
theorem d_LW_law_707 : decode code 707 = .ok (.aload_n 3, 1) := by decide +kernel
theorem d_LW_law_708 : decode code 708 = .ok (.iconst 0, 1) := by decide +kernel
theorem d_LW_law_709 : decode code 709 = .ok (.laload, 1) := by decide +kernel
theorem d_LW_law_710 : decode code 710 = .ok (.iload 6, 2) := by decide +kernel
theorem d_LW_law_712 : decode code 712 = .ok (.i2l, 1) := by decide +kernel
theorem d_LW_law_713 : decode code 713 = .ok (.lcmp, 1) := by decide +kernel
theorem d_LW_law_714 : decode code 714 = .ok (.ifCond .eq 5, 3) := by decide +kernel
theorem d_LW_law_717 : decode code 717 = .ok (.iconst 0, 1) := by decide +kernel
theorem d_LW_law_718 : decode code 718 = .ok (.ireturn, 1) := by decide +kernel
theorem d_LW_law_719 : decode code 719 = .ok (.goto 1245, 3) := by decide +kernel
theorem d_LW_law_722 : decode code 722 = .ok (.aload_n 1, 1) := by decide +kernel
theorem d_LW_law_723 : decode code 723 = .ok (.aload_n 0, 1) := by decide +kernel
theorem d_LW_law_724 : decode code 724 = .ok (.iload 4, 2) := by decide +kernel
theorem d_LW_law_726 : decode code 726 = .ok (.iconst 1, 1) := by decide +kernel
theorem d_LW_law_727 : decode code 727 = .ok (.iadd, 1) := by decide +kernel
theorem d_LW_law_728 : decode code 728 = .ok (.iaload, 1) := by decide +kernel
theorem d_LW_law_729 : decode code 729 = .ok (.aload_n 0, 1) := by decide +kernel
theorem d_LW_law_730 : decode code 730 = .ok (.iload 4, 2) := by decide +kernel
theorem d_LW_law_732 : decode code 732 = .ok (.iconst 2, 1) := by decide +kernel
theorem d_LW_law_733 : decode code 733 = .ok (.iadd, 1) := by decide +kernel
theorem d_LW_law_734 : decode code 734 = .ok (.iaload, 1) := by decide +kernel
theorem d_LW_law_735 : decode code 735 = .ok (.aload_n 0, 1) := by decide +kernel
theorem d_LW_law_736 : decode code 736 = .ok (.iload 4, 2) := by decide +kernel
theorem d_LW_law_738 : decode code 738 = .ok (.iconst 3, 1) := by decide +kernel
theorem d_LW_law_739 : decode code 739 = .ok (.iadd, 1) := by decide +kernel
theorem d_LW_law_740 : decode code 740 = .ok (.iaload, 1) := by decide +kernel
theorem d_LW_law_741 : decode code 741 = .ok (.aload_n 3, 1) := by decide +kernel
theorem d_LW_law_742 : decode code 742 = .ok (.invokestatic 145, 3) := by decide +kernel
theorem d_LW_law_745 : decode code 745 = .ok (.istore 5, 2) := by decide +kernel
theorem d_LW_law_747 : decode code 747 = .ok (.aload_n 2, 1) := by decide +kernel
theorem d_LW_law_748 : decode code 748 = .ok (.aload_n 0, 1) := by decide +kernel
theorem d_LW_law_749 : decode code 749 = .ok (.iload 4, 2) := by decide +kernel
theorem d_LW_law_751 : decode code 751 = .ok (.iconst 1, 1) := by decide +kernel
theorem d_LW_law_752 : decode code 752 = .ok (.iadd, 1) := by decide +kernel
theorem d_LW_law_753 : decode code 753 = .ok (.iaload, 1) := by decide +kernel
theorem d_LW_law_754 : decode code 754 = .ok (.aload_n 0, 1) := by decide +kernel
theorem d_LW_law_755 : decode code 755 = .ok (.iload 4, 2) := by decide +kernel
theorem d_LW_law_757 : decode code 757 = .ok (.iconst 2, 1) := by decide +kernel
theorem d_LW_law_758 : decode code 758 = .ok (.iadd, 1) := by decide +kernel
theorem d_LW_law_759 : decode code 759 = .ok (.iaload, 1) := by decide +kernel
theorem d_LW_law_760 : decode code 760 = .ok (.aload_n 0, 1) := by decide +kernel
theorem d_LW_law_761 : decode code 761 = .ok (.iload 4, 2) := by decide +kernel
theorem d_LW_law_763 : decode code 763 = .ok (.iconst 3, 1) := by decide +kernel
theorem d_LW_law_764 : decode code 764 = .ok (.iadd, 1) := by decide +kernel
theorem d_LW_law_765 : decode code 765 = .ok (.iaload, 1) := by decide +kernel
theorem d_LW_law_766 : decode code 766 = .ok (.invokevirtual 147, 3) := by decide +kernel
theorem d_LW_law_769 : decode code 769 = .ok (.istore 6, 2) := by decide +kernel
theorem d_LW_law_771 : decode code 771 = .ok (.aload_n 2, 1) := by decide +kernel
theorem d_LW_law_772 : decode code 772 = .ok (.invokevirtual 110, 3) := by decide +kernel
theorem d_LW_law_775 : decode code 775 = .ok (.iload 5, 2) := by decide +kernel
theorem d_LW_law_777 : decode code 777 = .ok (.if_icmp .eq 5, 3) := by decide +kernel
theorem d_LW_law_780 : decode code 780 = .ok (.iconst 0, 1) := by decide +kernel
theorem d_LW_law_781 : decode code 781 = .ok (.ireturn, 1) := by decide +kernel
theorem d_LW_law_782 : decode code 782 = .ok (.iload 5, 2) := by decide +kernel
theorem d_LW_law_784 : decode code 784 = .ok (.ifCond .ne 15, 3) := by decide +kernel
theorem d_LW_law_787 : decode code 787 = .ok (.aload_n 3, 1) := by decide +kernel
theorem d_LW_law_788 : decode code 788 = .ok (.iconst 0, 1) := by decide +kernel
theorem d_LW_law_789 : decode code 789 = .ok (.laload, 1) := by decide +kernel
theorem d_LW_law_790 : decode code 790 = .ok (.iload 6, 2) := by decide +kernel
theorem d_LW_law_792 : decode code 792 = .ok (.i2l, 1) := by decide +kernel
theorem d_LW_law_793 : decode code 793 = .ok (.lcmp, 1) := by decide +kernel
theorem d_LW_law_794 : decode code 794 = .ok (.ifCond .eq 5, 3) := by decide +kernel
theorem d_LW_law_797 : decode code 797 = .ok (.iconst 0, 1) := by decide +kernel
theorem d_LW_law_798 : decode code 798 = .ok (.ireturn, 1) := by decide +kernel
theorem d_LW_law_799 : decode code 799 = .ok (.goto 1165, 3) := by decide +kernel
theorem d_LW_law_802 : decode code 802 = .ok (.aload_n 1, 1) := by decide +kernel
theorem d_LW_law_803 : decode code 803 = .ok (.aload_n 0, 1) := by decide +kernel
theorem d_LW_law_804 : decode code 804 = .ok (.iload 4, 2) := by decide +kernel
theorem d_LW_law_806 : decode code 806 = .ok (.iconst 1, 1) := by decide +kernel
theorem d_LW_law_807 : decode code 807 = .ok (.iadd, 1) := by decide +kernel
theorem d_LW_law_808 : decode code 808 = .ok (.iaload, 1) := by decide +kernel
theorem d_LW_law_809 : decode code 809 = .ok (.aload_n 0, 1) := by decide +kernel
theorem d_LW_law_810 : decode code 810 = .ok (.iload 4, 2) := by decide +kernel
theorem d_LW_law_812 : decode code 812 = .ok (.iconst 2, 1) := by decide +kernel
theorem d_LW_law_813 : decode code 813 = .ok (.iadd, 1) := by decide +kernel
theorem d_LW_law_814 : decode code 814 = .ok (.iaload, 1) := by decide +kernel
theorem d_LW_law_815 : decode code 815 = .ok (.aload_n 3, 1) := by decide +kernel
theorem d_LW_law_816 : decode code 816 = .ok (.invokestatic 148, 3) := by decide +kernel
theorem d_LW_law_819 : decode code 819 = .ok (.istore 5, 2) := by decide +kernel
theorem d_LW_law_821 : decode code 821 = .ok (.aload_n 2, 1) := by decide +kernel
theorem d_LW_law_822 : decode code 822 = .ok (.aload_n 0, 1) := by decide +kernel
theorem d_LW_law_823 : decode code 823 = .ok (.iload 4, 2) := by decide +kernel
theorem d_LW_law_825 : decode code 825 = .ok (.iconst 1, 1) := by decide +kernel
theorem d_LW_law_826 : decode code 826 = .ok (.iadd, 1) := by decide +kernel
theorem d_LW_law_827 : decode code 827 = .ok (.iaload, 1) := by decide +kernel
theorem d_LW_law_828 : decode code 828 = .ok (.aload_n 0, 1) := by decide +kernel
theorem d_LW_law_829 : decode code 829 = .ok (.iload 4, 2) := by decide +kernel
theorem d_LW_law_831 : decode code 831 = .ok (.iconst 2, 1) := by decide +kernel
theorem d_LW_law_832 : decode code 832 = .ok (.iadd, 1) := by decide +kernel
theorem d_LW_law_833 : decode code 833 = .ok (.iaload, 1) := by decide +kernel
theorem d_LW_law_834 : decode code 834 = .ok (.invokevirtual 150, 3) := by decide +kernel
theorem d_LW_law_837 : decode code 837 = .ok (.istore 6, 2) := by decide +kernel
theorem d_LW_law_839 : decode code 839 = .ok (.aload_n 2, 1) := by decide +kernel
theorem d_LW_law_840 : decode code 840 = .ok (.invokevirtual 110, 3) := by decide +kernel
theorem d_LW_law_843 : decode code 843 = .ok (.iload 5, 2) := by decide +kernel
theorem d_LW_law_845 : decode code 845 = .ok (.if_icmp .eq 5, 3) := by decide +kernel
theorem d_LW_law_848 : decode code 848 = .ok (.iconst 0, 1) := by decide +kernel
theorem d_LW_law_849 : decode code 849 = .ok (.ireturn, 1) := by decide +kernel
theorem d_LW_law_850 : decode code 850 = .ok (.iload 5, 2) := by decide +kernel
theorem d_LW_law_852 : decode code 852 = .ok (.ifCond .ne 15, 3) := by decide +kernel
theorem d_LW_law_855 : decode code 855 = .ok (.aload_n 3, 1) := by decide +kernel
theorem d_LW_law_856 : decode code 856 = .ok (.iconst 0, 1) := by decide +kernel
theorem d_LW_law_857 : decode code 857 = .ok (.laload, 1) := by decide +kernel
theorem d_LW_law_858 : decode code 858 = .ok (.iload 6, 2) := by decide +kernel
theorem d_LW_law_860 : decode code 860 = .ok (.i2l, 1) := by decide +kernel
theorem d_LW_law_861 : decode code 861 = .ok (.lcmp, 1) := by decide +kernel
theorem d_LW_law_862 : decode code 862 = .ok (.ifCond .eq 5, 3) := by decide +kernel
theorem d_LW_law_865 : decode code 865 = .ok (.iconst 0, 1) := by decide +kernel
theorem d_LW_law_866 : decode code 866 = .ok (.ireturn, 1) := by decide +kernel
theorem d_LW_law_867 : decode code 867 = .ok (.goto 1097, 3) := by decide +kernel
theorem d_LW_law_870 : decode code 870 = .ok (.aload_n 1, 1) := by decide +kernel
theorem d_LW_law_871 : decode code 871 = .ok (.aload_n 0, 1) := by decide +kernel
theorem d_LW_law_872 : decode code 872 = .ok (.iload 4, 2) := by decide +kernel
theorem d_LW_law_874 : decode code 874 = .ok (.iconst 1, 1) := by decide +kernel
theorem d_LW_law_875 : decode code 875 = .ok (.iadd, 1) := by decide +kernel
theorem d_LW_law_876 : decode code 876 = .ok (.iaload, 1) := by decide +kernel
theorem d_LW_law_877 : decode code 877 = .ok (.aload_n 3, 1) := by decide +kernel
theorem d_LW_law_878 : decode code 878 = .ok (.invokestatic 151, 3) := by decide +kernel
theorem d_LW_law_881 : decode code 881 = .ok (.istore 5, 2) := by decide +kernel
theorem d_LW_law_883 : decode code 883 = .ok (.aload_n 2, 1) := by decide +kernel
theorem d_LW_law_884 : decode code 884 = .ok (.aload_n 0, 1) := by decide +kernel
theorem d_LW_law_885 : decode code 885 = .ok (.iload 4, 2) := by decide +kernel
theorem d_LW_law_887 : decode code 887 = .ok (.iconst 1, 1) := by decide +kernel
theorem d_LW_law_888 : decode code 888 = .ok (.iadd, 1) := by decide +kernel
theorem d_LW_law_889 : decode code 889 = .ok (.iaload, 1) := by decide +kernel
theorem d_LW_law_890 : decode code 890 = .ok (.invokevirtual 153, 3) := by decide +kernel
theorem d_LW_law_893 : decode code 893 = .ok (.istore 6, 2) := by decide +kernel
theorem d_LW_law_895 : decode code 895 = .ok (.aload_n 2, 1) := by decide +kernel
theorem d_LW_law_896 : decode code 896 = .ok (.invokevirtual 110, 3) := by decide +kernel
theorem d_LW_law_899 : decode code 899 = .ok (.iload 5, 2) := by decide +kernel
theorem d_LW_law_901 : decode code 901 = .ok (.if_icmp .eq 5, 3) := by decide +kernel
theorem d_LW_law_904 : decode code 904 = .ok (.iconst 0, 1) := by decide +kernel
theorem d_LW_law_905 : decode code 905 = .ok (.ireturn, 1) := by decide +kernel
theorem d_LW_law_906 : decode code 906 = .ok (.iload 5, 2) := by decide +kernel
theorem d_LW_law_908 : decode code 908 = .ok (.ifCond .ne 15, 3) := by decide +kernel
theorem d_LW_law_911 : decode code 911 = .ok (.aload_n 3, 1) := by decide +kernel
theorem d_LW_law_912 : decode code 912 = .ok (.iconst 0, 1) := by decide +kernel
theorem d_LW_law_913 : decode code 913 = .ok (.laload, 1) := by decide +kernel
theorem d_LW_law_914 : decode code 914 = .ok (.iload 6, 2) := by decide +kernel
theorem d_LW_law_916 : decode code 916 = .ok (.i2l, 1) := by decide +kernel
theorem d_LW_law_917 : decode code 917 = .ok (.lcmp, 1) := by decide +kernel
theorem d_LW_law_918 : decode code 918 = .ok (.ifCond .eq 5, 3) := by decide +kernel
theorem d_LW_law_921 : decode code 921 = .ok (.iconst 0, 1) := by decide +kernel
theorem d_LW_law_922 : decode code 922 = .ok (.ireturn, 1) := by decide +kernel
theorem d_LW_law_923 : decode code 923 = .ok (.goto 1041, 3) := by decide +kernel
theorem d_LW_law_926 : decode code 926 = .ok (.aload_n 1, 1) := by decide +kernel
theorem d_LW_law_927 : decode code 927 = .ok (.aload_n 3, 1) := by decide +kernel
theorem d_LW_law_928 : decode code 928 = .ok (.invokestatic 154, 3) := by decide +kernel
theorem d_LW_law_931 : decode code 931 = .ok (.istore 5, 2) := by decide +kernel
theorem d_LW_law_933 : decode code 933 = .ok (.aload_n 2, 1) := by decide +kernel
theorem d_LW_law_934 : decode code 934 = .ok (.invokevirtual 156, 3) := by decide +kernel
theorem d_LW_law_937 : decode code 937 = .ok (.istore 6, 2) := by decide +kernel
theorem d_LW_law_939 : decode code 939 = .ok (.aload_n 2, 1) := by decide +kernel
theorem d_LW_law_940 : decode code 940 = .ok (.invokevirtual 110, 3) := by decide +kernel
theorem d_LW_law_943 : decode code 943 = .ok (.iload 5, 2) := by decide +kernel
theorem d_LW_law_945 : decode code 945 = .ok (.if_icmp .eq 5, 3) := by decide +kernel
theorem d_LW_law_948 : decode code 948 = .ok (.iconst 0, 1) := by decide +kernel
theorem d_LW_law_949 : decode code 949 = .ok (.ireturn, 1) := by decide +kernel
theorem d_LW_law_950 : decode code 950 = .ok (.iload 5, 2) := by decide +kernel
theorem d_LW_law_952 : decode code 952 = .ok (.ifCond .ne 15, 3) := by decide +kernel
theorem d_LW_law_955 : decode code 955 = .ok (.aload_n 3, 1) := by decide +kernel
theorem d_LW_law_956 : decode code 956 = .ok (.iconst 0, 1) := by decide +kernel
theorem d_LW_law_957 : decode code 957 = .ok (.laload, 1) := by decide +kernel
theorem d_LW_law_958 : decode code 958 = .ok (.iload 6, 2) := by decide +kernel
theorem d_LW_law_960 : decode code 960 = .ok (.i2l, 1) := by decide +kernel
theorem d_LW_law_961 : decode code 961 = .ok (.lcmp, 1) := by decide +kernel
theorem d_LW_law_962 : decode code 962 = .ok (.ifCond .eq 5, 3) := by decide +kernel
theorem d_LW_law_965 : decode code 965 = .ok (.iconst 0, 1) := by decide +kernel
theorem d_LW_law_966 : decode code 966 = .ok (.ireturn, 1) := by decide +kernel
theorem d_LW_law_967 : decode code 967 = .ok (.goto 997, 3) := by decide +kernel
theorem d_LW_law_970 : decode code 970 = .ok (.aload_n 1, 1) := by decide +kernel
theorem d_LW_law_971 : decode code 971 = .ok (.aload_n 3, 1) := by decide +kernel
theorem d_LW_law_972 : decode code 972 = .ok (.invokestatic 157, 3) := by decide +kernel
theorem d_LW_law_975 : decode code 975 = .ok (.istore 5, 2) := by decide +kernel
theorem d_LW_law_977 : decode code 977 = .ok (.aload_n 2, 1) := by decide +kernel
theorem d_LW_law_978 : decode code 978 = .ok (.invokevirtual 159, 3) := by decide +kernel
theorem d_LW_law_981 : decode code 981 = .ok (.istore 6, 2) := by decide +kernel
theorem d_LW_law_983 : decode code 983 = .ok (.aload_n 2, 1) := by decide +kernel
theorem d_LW_law_984 : decode code 984 = .ok (.invokevirtual 110, 3) := by decide +kernel
theorem d_LW_law_987 : decode code 987 = .ok (.iload 5, 2) := by decide +kernel
theorem d_LW_law_989 : decode code 989 = .ok (.if_icmp .eq 5, 3) := by decide +kernel
theorem d_LW_law_992 : decode code 992 = .ok (.iconst 0, 1) := by decide +kernel
theorem d_LW_law_993 : decode code 993 = .ok (.ireturn, 1) := by decide +kernel
theorem d_LW_law_994 : decode code 994 = .ok (.iload 5, 2) := by decide +kernel
theorem d_LW_law_996 : decode code 996 = .ok (.ifCond .ne 15, 3) := by decide +kernel
theorem d_LW_law_999 : decode code 999 = .ok (.aload_n 3, 1) := by decide +kernel
theorem d_LW_law_1000 : decode code 1000 = .ok (.iconst 0, 1) := by decide +kernel
theorem d_LW_law_1001 : decode code 1001 = .ok (.laload, 1) := by decide +kernel
theorem d_LW_law_1002 : decode code 1002 = .ok (.iload 6, 2) := by decide +kernel
theorem d_LW_law_1004 : decode code 1004 = .ok (.i2l, 1) := by decide +kernel
theorem d_LW_law_1005 : decode code 1005 = .ok (.lcmp, 1) := by decide +kernel
theorem d_LW_law_1006 : decode code 1006 = .ok (.ifCond .eq 5, 3) := by decide +kernel
theorem d_LW_law_1009 : decode code 1009 = .ok (.iconst 0, 1) := by decide +kernel
theorem d_LW_law_1010 : decode code 1010 = .ok (.ireturn, 1) := by decide +kernel
theorem d_LW_law_1011 : decode code 1011 = .ok (.goto 953, 3) := by decide +kernel
theorem d_LW_law_1014 : decode code 1014 = .ok (.aload_n 1, 1) := by decide +kernel
theorem d_LW_law_1015 : decode code 1015 = .ok (.aload_n 0, 1) := by decide +kernel
theorem d_LW_law_1016 : decode code 1016 = .ok (.iload 4, 2) := by decide +kernel
theorem d_LW_law_1018 : decode code 1018 = .ok (.iconst 1, 1) := by decide +kernel
theorem d_LW_law_1019 : decode code 1019 = .ok (.iadd, 1) := by decide +kernel
theorem d_LW_law_1020 : decode code 1020 = .ok (.iaload, 1) := by decide +kernel
theorem d_LW_law_1021 : decode code 1021 = .ok (.aload_n 0, 1) := by decide +kernel
theorem d_LW_law_1022 : decode code 1022 = .ok (.iload 4, 2) := by decide +kernel
theorem d_LW_law_1024 : decode code 1024 = .ok (.iconst 2, 1) := by decide +kernel
theorem d_LW_law_1025 : decode code 1025 = .ok (.iadd, 1) := by decide +kernel
theorem d_LW_law_1026 : decode code 1026 = .ok (.iaload, 1) := by decide +kernel
theorem d_LW_law_1027 : decode code 1027 = .ok (.aload_n 3, 1) := by decide +kernel
theorem d_LW_law_1028 : decode code 1028 = .ok (.invokestatic 160, 3) := by decide +kernel
theorem d_LW_law_1031 : decode code 1031 = .ok (.istore 5, 2) := by decide +kernel
theorem d_LW_law_1033 : decode code 1033 = .ok (.aload_n 2, 1) := by decide +kernel
theorem d_LW_law_1034 : decode code 1034 = .ok (.aload_n 0, 1) := by decide +kernel
theorem d_LW_law_1035 : decode code 1035 = .ok (.iload 4, 2) := by decide +kernel
theorem d_LW_law_1037 : decode code 1037 = .ok (.iconst 1, 1) := by decide +kernel
theorem d_LW_law_1038 : decode code 1038 = .ok (.iadd, 1) := by decide +kernel
theorem d_LW_law_1039 : decode code 1039 = .ok (.iaload, 1) := by decide +kernel
theorem d_LW_law_1040 : decode code 1040 = .ok (.aload_n 0, 1) := by decide +kernel
theorem d_LW_law_1041 : decode code 1041 = .ok (.iload 4, 2) := by decide +kernel
theorem d_LW_law_1043 : decode code 1043 = .ok (.iconst 2, 1) := by decide +kernel
theorem d_LW_law_1044 : decode code 1044 = .ok (.iadd, 1) := by decide +kernel
theorem d_LW_law_1045 : decode code 1045 = .ok (.iaload, 1) := by decide +kernel
theorem d_LW_law_1046 : decode code 1046 = .ok (.invokevirtual 162, 3) := by decide +kernel
theorem d_LW_law_1049 : decode code 1049 = .ok (.istore 6, 2) := by decide +kernel
theorem d_LW_law_1051 : decode code 1051 = .ok (.aload_n 2, 1) := by decide +kernel
theorem d_LW_law_1052 : decode code 1052 = .ok (.invokevirtual 110, 3) := by decide +kernel
theorem d_LW_law_1055 : decode code 1055 = .ok (.iload 5, 2) := by decide +kernel
theorem d_LW_law_1057 : decode code 1057 = .ok (.if_icmp .eq 5, 3) := by decide +kernel
theorem d_LW_law_1060 : decode code 1060 = .ok (.iconst 0, 1) := by decide +kernel
theorem d_LW_law_1061 : decode code 1061 = .ok (.ireturn, 1) := by decide +kernel
theorem d_LW_law_1062 : decode code 1062 = .ok (.iload 5, 2) := by decide +kernel
theorem d_LW_law_1064 : decode code 1064 = .ok (.ifCond .ne 15, 3) := by decide +kernel
theorem d_LW_law_1067 : decode code 1067 = .ok (.aload_n 3, 1) := by decide +kernel
theorem d_LW_law_1068 : decode code 1068 = .ok (.iconst 0, 1) := by decide +kernel
theorem d_LW_law_1069 : decode code 1069 = .ok (.laload, 1) := by decide +kernel
theorem d_LW_law_1070 : decode code 1070 = .ok (.iload 6, 2) := by decide +kernel
theorem d_LW_law_1072 : decode code 1072 = .ok (.i2l, 1) := by decide +kernel
theorem d_LW_law_1073 : decode code 1073 = .ok (.lcmp, 1) := by decide +kernel
theorem d_LW_law_1074 : decode code 1074 = .ok (.ifCond .eq 5, 3) := by decide +kernel
theorem d_LW_law_1077 : decode code 1077 = .ok (.iconst 0, 1) := by decide +kernel
theorem d_LW_law_1078 : decode code 1078 = .ok (.ireturn, 1) := by decide +kernel
theorem d_LW_law_1079 : decode code 1079 = .ok (.goto 885, 3) := by decide +kernel
theorem d_LW_law_1082 : decode code 1082 = .ok (.aload_n 1, 1) := by decide +kernel
theorem d_LW_law_1083 : decode code 1083 = .ok (.aload_n 0, 1) := by decide +kernel
theorem d_LW_law_1084 : decode code 1084 = .ok (.iload 4, 2) := by decide +kernel
theorem d_LW_law_1086 : decode code 1086 = .ok (.iconst 1, 1) := by decide +kernel
theorem d_LW_law_1087 : decode code 1087 = .ok (.iadd, 1) := by decide +kernel
theorem d_LW_law_1088 : decode code 1088 = .ok (.iaload, 1) := by decide +kernel
theorem d_LW_law_1089 : decode code 1089 = .ok (.aload_n 0, 1) := by decide +kernel
theorem d_LW_law_1090 : decode code 1090 = .ok (.iload 4, 2) := by decide +kernel
theorem d_LW_law_1092 : decode code 1092 = .ok (.iconst 2, 1) := by decide +kernel
theorem d_LW_law_1093 : decode code 1093 = .ok (.iadd, 1) := by decide +kernel
theorem d_LW_law_1094 : decode code 1094 = .ok (.iaload, 1) := by decide +kernel
theorem d_LW_law_1095 : decode code 1095 = .ok (.aload_n 3, 1) := by decide +kernel
theorem d_LW_law_1096 : decode code 1096 = .ok (.invokestatic 163, 3) := by decide +kernel
theorem d_LW_law_1099 : decode code 1099 = .ok (.istore 5, 2) := by decide +kernel
theorem d_LW_law_1101 : decode code 1101 = .ok (.aload_n 2, 1) := by decide +kernel
theorem d_LW_law_1102 : decode code 1102 = .ok (.aload_n 0, 1) := by decide +kernel
theorem d_LW_law_1103 : decode code 1103 = .ok (.iload 4, 2) := by decide +kernel
theorem d_LW_law_1105 : decode code 1105 = .ok (.iconst 1, 1) := by decide +kernel
theorem d_LW_law_1106 : decode code 1106 = .ok (.iadd, 1) := by decide +kernel
theorem d_LW_law_1107 : decode code 1107 = .ok (.iaload, 1) := by decide +kernel
theorem d_LW_law_1108 : decode code 1108 = .ok (.aload_n 0, 1) := by decide +kernel
theorem d_LW_law_1109 : decode code 1109 = .ok (.iload 4, 2) := by decide +kernel
theorem d_LW_law_1111 : decode code 1111 = .ok (.iconst 2, 1) := by decide +kernel
theorem d_LW_law_1112 : decode code 1112 = .ok (.iadd, 1) := by decide +kernel
theorem d_LW_law_1113 : decode code 1113 = .ok (.iaload, 1) := by decide +kernel
theorem d_LW_law_1114 : decode code 1114 = .ok (.invokevirtual 165, 3) := by decide +kernel
theorem d_LW_law_1117 : decode code 1117 = .ok (.istore 6, 2) := by decide +kernel
theorem d_LW_law_1119 : decode code 1119 = .ok (.aload_n 2, 1) := by decide +kernel
theorem d_LW_law_1120 : decode code 1120 = .ok (.invokevirtual 110, 3) := by decide +kernel
theorem d_LW_law_1123 : decode code 1123 = .ok (.iload 5, 2) := by decide +kernel
theorem d_LW_law_1125 : decode code 1125 = .ok (.if_icmp .eq 5, 3) := by decide +kernel
theorem d_LW_law_1128 : decode code 1128 = .ok (.iconst 0, 1) := by decide +kernel
theorem d_LW_law_1129 : decode code 1129 = .ok (.ireturn, 1) := by decide +kernel
theorem d_LW_law_1130 : decode code 1130 = .ok (.iload 5, 2) := by decide +kernel
theorem d_LW_law_1132 : decode code 1132 = .ok (.ifCond .ne 15, 3) := by decide +kernel
theorem d_LW_law_1135 : decode code 1135 = .ok (.aload_n 3, 1) := by decide +kernel
theorem d_LW_law_1136 : decode code 1136 = .ok (.iconst 0, 1) := by decide +kernel
theorem d_LW_law_1137 : decode code 1137 = .ok (.laload, 1) := by decide +kernel
theorem d_LW_law_1138 : decode code 1138 = .ok (.iload 6, 2) := by decide +kernel
theorem d_LW_law_1140 : decode code 1140 = .ok (.i2l, 1) := by decide +kernel
theorem d_LW_law_1141 : decode code 1141 = .ok (.lcmp, 1) := by decide +kernel
theorem d_LW_law_1142 : decode code 1142 = .ok (.ifCond .eq 5, 3) := by decide +kernel
theorem d_LW_law_1145 : decode code 1145 = .ok (.iconst 0, 1) := by decide +kernel
theorem d_LW_law_1146 : decode code 1146 = .ok (.ireturn, 1) := by decide +kernel
theorem d_LW_law_1147 : decode code 1147 = .ok (.goto 817, 3) := by decide +kernel
theorem d_LW_law_1150 : decode code 1150 = .ok (.aload_n 1, 1) := by decide +kernel
theorem d_LW_law_1151 : decode code 1151 = .ok (.aload_n 0, 1) := by decide +kernel
theorem d_LW_law_1152 : decode code 1152 = .ok (.iload 4, 2) := by decide +kernel
theorem d_LW_law_1154 : decode code 1154 = .ok (.iconst 1, 1) := by decide +kernel
theorem d_LW_law_1155 : decode code 1155 = .ok (.iadd, 1) := by decide +kernel
theorem d_LW_law_1156 : decode code 1156 = .ok (.iaload, 1) := by decide +kernel
theorem d_LW_law_1157 : decode code 1157 = .ok (.aload_n 0, 1) := by decide +kernel
theorem d_LW_law_1158 : decode code 1158 = .ok (.iload 4, 2) := by decide +kernel
theorem d_LW_law_1160 : decode code 1160 = .ok (.iconst 2, 1) := by decide +kernel
theorem d_LW_law_1161 : decode code 1161 = .ok (.iadd, 1) := by decide +kernel
theorem d_LW_law_1162 : decode code 1162 = .ok (.iaload, 1) := by decide +kernel
theorem d_LW_law_1163 : decode code 1163 = .ok (.aload_n 3, 1) := by decide +kernel
theorem d_LW_law_1164 : decode code 1164 = .ok (.invokestatic 166, 3) := by decide +kernel
theorem d_LW_law_1167 : decode code 1167 = .ok (.istore 5, 2) := by decide +kernel
theorem d_LW_law_1169 : decode code 1169 = .ok (.aload_n 2, 1) := by decide +kernel
theorem d_LW_law_1170 : decode code 1170 = .ok (.aload_n 0, 1) := by decide +kernel
theorem d_LW_law_1171 : decode code 1171 = .ok (.iload 4, 2) := by decide +kernel
theorem d_LW_law_1173 : decode code 1173 = .ok (.iconst 1, 1) := by decide +kernel
theorem d_LW_law_1174 : decode code 1174 = .ok (.iadd, 1) := by decide +kernel
theorem d_LW_law_1175 : decode code 1175 = .ok (.iaload, 1) := by decide +kernel
theorem d_LW_law_1176 : decode code 1176 = .ok (.aload_n 0, 1) := by decide +kernel
theorem d_LW_law_1177 : decode code 1177 = .ok (.iload 4, 2) := by decide +kernel
theorem d_LW_law_1179 : decode code 1179 = .ok (.iconst 2, 1) := by decide +kernel
theorem d_LW_law_1180 : decode code 1180 = .ok (.iadd, 1) := by decide +kernel
theorem d_LW_law_1181 : decode code 1181 = .ok (.iaload, 1) := by decide +kernel
theorem d_LW_law_1182 : decode code 1182 = .ok (.invokevirtual 168, 3) := by decide +kernel
theorem d_LW_law_1185 : decode code 1185 = .ok (.istore 6, 2) := by decide +kernel
theorem d_LW_law_1187 : decode code 1187 = .ok (.aload_n 2, 1) := by decide +kernel
theorem d_LW_law_1188 : decode code 1188 = .ok (.invokevirtual 110, 3) := by decide +kernel
theorem d_LW_law_1191 : decode code 1191 = .ok (.iload 5, 2) := by decide +kernel
theorem d_LW_law_1193 : decode code 1193 = .ok (.if_icmp .eq 5, 3) := by decide +kernel
theorem d_LW_law_1196 : decode code 1196 = .ok (.iconst 0, 1) := by decide +kernel
theorem d_LW_law_1197 : decode code 1197 = .ok (.ireturn, 1) := by decide +kernel
theorem d_LW_law_1198 : decode code 1198 = .ok (.iload 5, 2) := by decide +kernel
theorem d_LW_law_1200 : decode code 1200 = .ok (.ifCond .ne 15, 3) := by decide +kernel
theorem d_LW_law_1203 : decode code 1203 = .ok (.aload_n 3, 1) := by decide +kernel
theorem d_LW_law_1204 : decode code 1204 = .ok (.iconst 0, 1) := by decide +kernel
theorem d_LW_law_1205 : decode code 1205 = .ok (.laload, 1) := by decide +kernel
theorem d_LW_law_1206 : decode code 1206 = .ok (.iload 6, 2) := by decide +kernel
theorem d_LW_law_1208 : decode code 1208 = .ok (.i2l, 1) := by decide +kernel
theorem d_LW_law_1209 : decode code 1209 = .ok (.lcmp, 1) := by decide +kernel
theorem d_LW_law_1210 : decode code 1210 = .ok (.ifCond .eq 5, 3) := by decide +kernel
theorem d_LW_law_1213 : decode code 1213 = .ok (.iconst 0, 1) := by decide +kernel
theorem d_LW_law_1214 : decode code 1214 = .ok (.ireturn, 1) := by decide +kernel
theorem d_LW_law_1215 : decode code 1215 = .ok (.goto 749, 3) := by decide +kernel
theorem d_LW_law_1218 : decode code 1218 = .ok (.aload_n 1, 1) := by decide +kernel
theorem d_LW_law_1219 : decode code 1219 = .ok (.aload_n 3, 1) := by decide +kernel
theorem d_LW_law_1220 : decode code 1220 = .ok (.invokestatic 169, 3) := by decide +kernel
theorem d_LW_law_1223 : decode code 1223 = .ok (.istore 5, 2) := by decide +kernel
theorem d_LW_law_1225 : decode code 1225 = .ok (.aload_n 2, 1) := by decide +kernel
theorem d_LW_law_1226 : decode code 1226 = .ok (.invokevirtual 171, 3) := by decide +kernel
theorem d_LW_law_1229 : decode code 1229 = .ok (.istore 6, 2) := by decide +kernel
theorem d_LW_law_1231 : decode code 1231 = .ok (.aload_n 2, 1) := by decide +kernel
theorem d_LW_law_1232 : decode code 1232 = .ok (.invokevirtual 110, 3) := by decide +kernel
theorem d_LW_law_1235 : decode code 1235 = .ok (.iload 5, 2) := by decide +kernel
theorem d_LW_law_1237 : decode code 1237 = .ok (.if_icmp .eq 5, 3) := by decide +kernel
theorem d_LW_law_1240 : decode code 1240 = .ok (.iconst 0, 1) := by decide +kernel
theorem d_LW_law_1241 : decode code 1241 = .ok (.ireturn, 1) := by decide +kernel
theorem d_LW_law_1242 : decode code 1242 = .ok (.iload 5, 2) := by decide +kernel
theorem d_LW_law_1244 : decode code 1244 = .ok (.ifCond .ne 15, 3) := by decide +kernel
theorem d_LW_law_1247 : decode code 1247 = .ok (.aload_n 3, 1) := by decide +kernel
theorem d_LW_law_1248 : decode code 1248 = .ok (.iconst 0, 1) := by decide +kernel
theorem d_LW_law_1249 : decode code 1249 = .ok (.laload, 1) := by decide +kernel
theorem d_LW_law_1250 : decode code 1250 = .ok (.iload 6, 2) := by decide +kernel
theorem d_LW_law_1252 : decode code 1252 = .ok (.i2l, 1) := by decide +kernel
theorem d_LW_law_1253 : decode code 1253 = .ok (.lcmp, 1) := by decide +kernel
theorem d_LW_law_1254 : decode code 1254 = .ok (.ifCond .eq 5, 3) := by decide +kernel
theorem d_LW_law_1257 : decode code 1257 = .ok (.iconst 0, 1) := by decide +kernel
theorem d_LW_law_1258 : decode code 1258 = .ok (.ireturn, 1) := by decide +kernel
theorem d_LW_law_1259 : decode code 1259 = .ok (.goto 705, 3) := by decide +kernel
theorem d_LW_law_1262 : decode code 1262 = .ok (.aload_n 1, 1) := by decide +kernel
theorem d_LW_law_1263 : decode code 1263 = .ok (.aload_n 0, 1) := by decide +kernel
theorem d_LW_law_1264 : decode code 1264 = .ok (.iload 4, 2) := by decide +kernel
theorem d_LW_law_1266 : decode code 1266 = .ok (.iconst 1, 1) := by decide +kernel
theorem d_LW_law_1267 : decode code 1267 = .ok (.iadd, 1) := by decide +kernel
theorem d_LW_law_1268 : decode code 1268 = .ok (.iaload, 1) := by decide +kernel
theorem d_LW_law_1269 : decode code 1269 = .ok (.aload_n 0, 1) := by decide +kernel
theorem d_LW_law_1270 : decode code 1270 = .ok (.iload 4, 2) := by decide +kernel
theorem d_LW_law_1272 : decode code 1272 = .ok (.iconst 2, 1) := by decide +kernel
theorem d_LW_law_1273 : decode code 1273 = .ok (.iadd, 1) := by decide +kernel
theorem d_LW_law_1274 : decode code 1274 = .ok (.iaload, 1) := by decide +kernel
theorem d_LW_law_1275 : decode code 1275 = .ok (.aload_n 3, 1) := by decide +kernel
theorem d_LW_law_1276 : decode code 1276 = .ok (.invokestatic 172, 3) := by decide +kernel
theorem d_LW_law_1279 : decode code 1279 = .ok (.istore 5, 2) := by decide +kernel
theorem d_LW_law_1281 : decode code 1281 = .ok (.aload_n 2, 1) := by decide +kernel
theorem d_LW_law_1282 : decode code 1282 = .ok (.aload_n 0, 1) := by decide +kernel
theorem d_LW_law_1283 : decode code 1283 = .ok (.iload 4, 2) := by decide +kernel
theorem d_LW_law_1285 : decode code 1285 = .ok (.iconst 1, 1) := by decide +kernel
theorem d_LW_law_1286 : decode code 1286 = .ok (.iadd, 1) := by decide +kernel
theorem d_LW_law_1287 : decode code 1287 = .ok (.iaload, 1) := by decide +kernel
theorem d_LW_law_1288 : decode code 1288 = .ok (.aload_n 0, 1) := by decide +kernel
theorem d_LW_law_1289 : decode code 1289 = .ok (.iload 4, 2) := by decide +kernel
theorem d_LW_law_1291 : decode code 1291 = .ok (.iconst 2, 1) := by decide +kernel
theorem d_LW_law_1292 : decode code 1292 = .ok (.iadd, 1) := by decide +kernel
theorem d_LW_law_1293 : decode code 1293 = .ok (.iaload, 1) := by decide +kernel
theorem d_LW_law_1294 : decode code 1294 = .ok (.invokevirtual 174, 3) := by decide +kernel
theorem d_LW_law_1297 : decode code 1297 = .ok (.istore 6, 2) := by decide +kernel
theorem d_LW_law_1299 : decode code 1299 = .ok (.aload_n 2, 1) := by decide +kernel
theorem d_LW_law_1300 : decode code 1300 = .ok (.invokevirtual 110, 3) := by decide +kernel
theorem d_LW_law_1303 : decode code 1303 = .ok (.iload 5, 2) := by decide +kernel
theorem d_LW_law_1305 : decode code 1305 = .ok (.if_icmp .eq 5, 3) := by decide +kernel
theorem d_LW_law_1308 : decode code 1308 = .ok (.iconst 0, 1) := by decide +kernel
theorem d_LW_law_1309 : decode code 1309 = .ok (.ireturn, 1) := by decide +kernel
theorem d_LW_law_1310 : decode code 1310 = .ok (.iload 5, 2) := by decide +kernel
theorem d_LW_law_1312 : decode code 1312 = .ok (.ifCond .ne 15, 3) := by decide +kernel
theorem d_LW_law_1315 : decode code 1315 = .ok (.aload_n 3, 1) := by decide +kernel
theorem d_LW_law_1316 : decode code 1316 = .ok (.iconst 0, 1) := by decide +kernel
theorem d_LW_law_1317 : decode code 1317 = .ok (.laload, 1) := by decide +kernel
theorem d_LW_law_1318 : decode code 1318 = .ok (.iload 6, 2) := by decide +kernel
theorem d_LW_law_1320 : decode code 1320 = .ok (.i2l, 1) := by decide +kernel
theorem d_LW_law_1321 : decode code 1321 = .ok (.lcmp, 1) := by decide +kernel
theorem d_LW_law_1322 : decode code 1322 = .ok (.ifCond .eq 5, 3) := by decide +kernel
theorem d_LW_law_1325 : decode code 1325 = .ok (.iconst 0, 1) := by decide +kernel
theorem d_LW_law_1326 : decode code 1326 = .ok (.ireturn, 1) := by decide +kernel
theorem d_LW_law_1327 : decode code 1327 = .ok (.goto 637, 3) := by decide +kernel
theorem d_LW_law_1330 : decode code 1330 = .ok (.aload_n 1, 1) := by decide +kernel
theorem d_LW_law_1331 : decode code 1331 = .ok (.invokevirtual 175, 3) := by decide +kernel
theorem d_LW_law_1334 : decode code 1334 = .ok (.aload_n 2, 1) := by decide +kernel
theorem d_LW_law_1335 : decode code 1335 = .ok (.invokevirtual 178, 3) := by decide +kernel
theorem d_LW_law_1338 : decode code 1338 = .ok (.if_icmp .eq 626, 3) := by decide +kernel
theorem d_LW_law_1341 : decode code 1341 = .ok (.iconst 0, 1) := by decide +kernel
theorem d_LW_law_1342 : decode code 1342 = .ok (.ireturn, 1) := by decide +kernel
theorem d_LW_law_1343 : decode code 1343 = .ok (.aload_n 1, 1) := by decide +kernel
theorem d_LW_law_1344 : decode code 1344 = .ok (.invokevirtual 179, 3) := by decide +kernel
theorem d_LW_law_1347 : decode code 1347 = .ok (.aload_n 2, 1) := by decide +kernel
theorem d_LW_law_1348 : decode code 1348 = .ok (.invokevirtual 182, 3) := by decide +kernel
theorem d_LW_law_1351 : decode code 1351 = .ok (.if_icmp .eq 613, 3) := by decide +kernel
theorem d_LW_law_1354 : decode code 1354 = .ok (.iconst 0, 1) := by decide +kernel
theorem d_LW_law_1355 : decode code 1355 = .ok (.ireturn, 1) := by decide +kernel
theorem d_LW_law_1356 : decode code 1356 = .ok (.aload_n 1, 1) := by decide +kernel
theorem d_LW_law_1357 : decode code 1357 = .ok (.aload_n 0, 1) := by decide +kernel
theorem d_LW_law_1358 : decode code 1358 = .ok (.iload 4, 2) := by decide +kernel
theorem d_LW_law_1360 : decode code 1360 = .ok (.iconst 1, 1) := by decide +kernel
theorem d_LW_law_1361 : decode code 1361 = .ok (.iadd, 1) := by decide +kernel
theorem d_LW_law_1362 : decode code 1362 = .ok (.iaload, 1) := by decide +kernel
theorem d_LW_law_1363 : decode code 1363 = .ok (.aload_n 3, 1) := by decide +kernel
theorem d_LW_law_1364 : decode code 1364 = .ok (.invokestatic 183, 3) := by decide +kernel
theorem d_LW_law_1367 : decode code 1367 = .ok (.istore 5, 2) := by decide +kernel
theorem d_LW_law_1369 : decode code 1369 = .ok (.aload_n 2, 1) := by decide +kernel
theorem d_LW_law_1370 : decode code 1370 = .ok (.aload_n 0, 1) := by decide +kernel
theorem d_LW_law_1371 : decode code 1371 = .ok (.iload 4, 2) := by decide +kernel
theorem d_LW_law_1373 : decode code 1373 = .ok (.iconst 1, 1) := by decide +kernel
theorem d_LW_law_1374 : decode code 1374 = .ok (.iadd, 1) := by decide +kernel
theorem d_LW_law_1375 : decode code 1375 = .ok (.iaload, 1) := by decide +kernel
theorem d_LW_law_1376 : decode code 1376 = .ok (.invokevirtual 185, 3) := by decide +kernel
theorem d_LW_law_1379 : decode code 1379 = .ok (.istore 6, 2) := by decide +kernel
theorem d_LW_law_1381 : decode code 1381 = .ok (.aload_n 2, 1) := by decide +kernel
theorem d_LW_law_1382 : decode code 1382 = .ok (.invokevirtual 110, 3) := by decide +kernel
theorem d_LW_law_1385 : decode code 1385 = .ok (.iload 5, 2) := by decide +kernel
theorem d_LW_law_1387 : decode code 1387 = .ok (.if_icmp .eq 5, 3) := by decide +kernel
theorem d_LW_law_1390 : decode code 1390 = .ok (.iconst 0, 1) := by decide +kernel
theorem d_LW_law_1391 : decode code 1391 = .ok (.ireturn, 1) := by decide +kernel
theorem d_LW_law_1392 : decode code 1392 = .ok (.iload 5, 2) := by decide +kernel
theorem d_LW_law_1394 : decode code 1394 = .ok (.ifCond .ne 15, 3) := by decide +kernel
theorem d_LW_law_1397 : decode code 1397 = .ok (.aload_n 3, 1) := by decide +kernel
theorem d_LW_law_1398 : decode code 1398 = .ok (.iconst 0, 1) := by decide +kernel
theorem d_LW_law_1399 : decode code 1399 = .ok (.laload, 1) := by decide +kernel
theorem d_LW_law_1400 : decode code 1400 = .ok (.iload 6, 2) := by decide +kernel
theorem d_LW_law_1402 : decode code 1402 = .ok (.i2l, 1) := by decide +kernel
theorem d_LW_law_1403 : decode code 1403 = .ok (.lcmp, 1) := by decide +kernel
theorem d_LW_law_1404 : decode code 1404 = .ok (.ifCond .eq 5, 3) := by decide +kernel
theorem d_LW_law_1407 : decode code 1407 = .ok (.iconst 0, 1) := by decide +kernel
theorem d_LW_law_1408 : decode code 1408 = .ok (.ireturn, 1) := by decide +kernel
theorem d_LW_law_1409 : decode code 1409 = .ok (.goto 555, 3) := by decide +kernel
theorem d_LW_law_1412 : decode code 1412 = .ok (.aload_n 1, 1) := by decide +kernel
theorem d_LW_law_1413 : decode code 1413 = .ok (.aload_n 0, 1) := by decide +kernel
theorem d_LW_law_1414 : decode code 1414 = .ok (.iload 4, 2) := by decide +kernel
theorem d_LW_law_1416 : decode code 1416 = .ok (.iconst 1, 1) := by decide +kernel
theorem d_LW_law_1417 : decode code 1417 = .ok (.iadd, 1) := by decide +kernel
theorem d_LW_law_1418 : decode code 1418 = .ok (.iaload, 1) := by decide +kernel
theorem d_LW_law_1419 : decode code 1419 = .ok (.aload_n 0, 1) := by decide +kernel
theorem d_LW_law_1420 : decode code 1420 = .ok (.iload 4, 2) := by decide +kernel
theorem d_LW_law_1422 : decode code 1422 = .ok (.iconst 2, 1) := by decide +kernel
theorem d_LW_law_1423 : decode code 1423 = .ok (.iadd, 1) := by decide +kernel
theorem d_LW_law_1424 : decode code 1424 = .ok (.iaload, 1) := by decide +kernel
theorem d_LW_law_1425 : decode code 1425 = .ok (.aload_n 0, 1) := by decide +kernel
theorem d_LW_law_1426 : decode code 1426 = .ok (.iload 4, 2) := by decide +kernel
theorem d_LW_law_1428 : decode code 1428 = .ok (.iconst 3, 1) := by decide +kernel
theorem d_LW_law_1429 : decode code 1429 = .ok (.iadd, 1) := by decide +kernel
theorem d_LW_law_1430 : decode code 1430 = .ok (.iaload, 1) := by decide +kernel
theorem d_LW_law_1431 : decode code 1431 = .ok (.aload_n 3, 1) := by decide +kernel
theorem d_LW_law_1432 : decode code 1432 = .ok (.invokestatic 186, 3) := by decide +kernel
theorem d_LW_law_1435 : decode code 1435 = .ok (.istore 5, 2) := by decide +kernel
theorem d_LW_law_1437 : decode code 1437 = .ok (.aload_n 2, 1) := by decide +kernel
theorem d_LW_law_1438 : decode code 1438 = .ok (.aload_n 0, 1) := by decide +kernel
theorem d_LW_law_1439 : decode code 1439 = .ok (.iload 4, 2) := by decide +kernel
theorem d_LW_law_1441 : decode code 1441 = .ok (.iconst 1, 1) := by decide +kernel
theorem d_LW_law_1442 : decode code 1442 = .ok (.iadd, 1) := by decide +kernel
theorem d_LW_law_1443 : decode code 1443 = .ok (.iaload, 1) := by decide +kernel
theorem d_LW_law_1444 : decode code 1444 = .ok (.aload_n 0, 1) := by decide +kernel
theorem d_LW_law_1445 : decode code 1445 = .ok (.iload 4, 2) := by decide +kernel
theorem d_LW_law_1447 : decode code 1447 = .ok (.iconst 2, 1) := by decide +kernel
theorem d_LW_law_1448 : decode code 1448 = .ok (.iadd, 1) := by decide +kernel
theorem d_LW_law_1449 : decode code 1449 = .ok (.iaload, 1) := by decide +kernel
theorem d_LW_law_1450 : decode code 1450 = .ok (.aload_n 0, 1) := by decide +kernel
theorem d_LW_law_1451 : decode code 1451 = .ok (.iload 4, 2) := by decide +kernel
theorem d_LW_law_1453 : decode code 1453 = .ok (.iconst 3, 1) := by decide +kernel
theorem d_LW_law_1454 : decode code 1454 = .ok (.iadd, 1) := by decide +kernel
theorem d_LW_law_1455 : decode code 1455 = .ok (.iaload, 1) := by decide +kernel
theorem d_LW_law_1456 : decode code 1456 = .ok (.invokevirtual 188, 3) := by decide +kernel
theorem d_LW_law_1459 : decode code 1459 = .ok (.lstore 6, 2) := by decide +kernel
theorem d_LW_law_1461 : decode code 1461 = .ok (.aload_n 2, 1) := by decide +kernel
theorem d_LW_law_1462 : decode code 1462 = .ok (.invokevirtual 110, 3) := by decide +kernel
theorem d_LW_law_1465 : decode code 1465 = .ok (.iload 5, 2) := by decide +kernel
theorem d_LW_law_1467 : decode code 1467 = .ok (.if_icmp .eq 5, 3) := by decide +kernel
theorem d_LW_law_1470 : decode code 1470 = .ok (.iconst 0, 1) := by decide +kernel
theorem d_LW_law_1471 : decode code 1471 = .ok (.ireturn, 1) := by decide +kernel
theorem d_LW_law_1472 : decode code 1472 = .ok (.iload 5, 2) := by decide +kernel
theorem d_LW_law_1474 : decode code 1474 = .ok (.ifCond .ne 14, 3) := by decide +kernel
theorem d_LW_law_1477 : decode code 1477 = .ok (.aload_n 3, 1) := by decide +kernel
theorem d_LW_law_1478 : decode code 1478 = .ok (.iconst 0, 1) := by decide +kernel
theorem d_LW_law_1479 : decode code 1479 = .ok (.laload, 1) := by decide +kernel
theorem d_LW_law_1480 : decode code 1480 = .ok (.lload 6, 2) := by decide +kernel
theorem d_LW_law_1482 : decode code 1482 = .ok (.lcmp, 1) := by decide +kernel
theorem d_LW_law_1483 : decode code 1483 = .ok (.ifCond .eq 5, 3) := by decide +kernel
theorem d_LW_law_1486 : decode code 1486 = .ok (.iconst 0, 1) := by decide +kernel
theorem d_LW_law_1487 : decode code 1487 = .ok (.ireturn, 1) := by decide +kernel
theorem d_LW_law_1488 : decode code 1488 = .ok (.goto 476, 3) := by decide +kernel
theorem d_LW_law_1491 : decode code 1491 = .ok (.aload_n 1, 1) := by decide +kernel
theorem d_LW_law_1492 : decode code 1492 = .ok (.aload_n 0, 1) := by decide +kernel
theorem d_LW_law_1493 : decode code 1493 = .ok (.iload 4, 2) := by decide +kernel
theorem d_LW_law_1495 : decode code 1495 = .ok (.iconst 1, 1) := by decide +kernel
theorem d_LW_law_1496 : decode code 1496 = .ok (.iadd, 1) := by decide +kernel
theorem d_LW_law_1497 : decode code 1497 = .ok (.iaload, 1) := by decide +kernel
theorem d_LW_law_1498 : decode code 1498 = .ok (.aload_n 0, 1) := by decide +kernel
theorem d_LW_law_1499 : decode code 1499 = .ok (.iload 4, 2) := by decide +kernel
theorem d_LW_law_1501 : decode code 1501 = .ok (.iconst 2, 1) := by decide +kernel
theorem d_LW_law_1502 : decode code 1502 = .ok (.iadd, 1) := by decide +kernel
theorem d_LW_law_1503 : decode code 1503 = .ok (.iaload, 1) := by decide +kernel
theorem d_LW_law_1504 : decode code 1504 = .ok (.aload_n 3, 1) := by decide +kernel
theorem d_LW_law_1505 : decode code 1505 = .ok (.invokestatic 189, 3) := by decide +kernel
theorem d_LW_law_1508 : decode code 1508 = .ok (.istore 5, 2) := by decide +kernel
theorem d_LW_law_1510 : decode code 1510 = .ok (.aload_n 2, 1) := by decide +kernel
theorem d_LW_law_1511 : decode code 1511 = .ok (.aload_n 0, 1) := by decide +kernel
theorem d_LW_law_1512 : decode code 1512 = .ok (.iload 4, 2) := by decide +kernel
theorem d_LW_law_1514 : decode code 1514 = .ok (.iconst 1, 1) := by decide +kernel
theorem d_LW_law_1515 : decode code 1515 = .ok (.iadd, 1) := by decide +kernel
theorem d_LW_law_1516 : decode code 1516 = .ok (.iaload, 1) := by decide +kernel
theorem d_LW_law_1517 : decode code 1517 = .ok (.aload_n 0, 1) := by decide +kernel
theorem d_LW_law_1518 : decode code 1518 = .ok (.iload 4, 2) := by decide +kernel
theorem d_LW_law_1520 : decode code 1520 = .ok (.iconst 2, 1) := by decide +kernel
theorem d_LW_law_1521 : decode code 1521 = .ok (.iadd, 1) := by decide +kernel
theorem d_LW_law_1522 : decode code 1522 = .ok (.iaload, 1) := by decide +kernel
theorem d_LW_law_1523 : decode code 1523 = .ok (.invokevirtual 191, 3) := by decide +kernel
theorem d_LW_law_1526 : decode code 1526 = .ok (.istore 6, 2) := by decide +kernel
theorem d_LW_law_1528 : decode code 1528 = .ok (.aload_n 2, 1) := by decide +kernel
theorem d_LW_law_1529 : decode code 1529 = .ok (.invokevirtual 110, 3) := by decide +kernel
theorem d_LW_law_1532 : decode code 1532 = .ok (.iload 5, 2) := by decide +kernel
theorem d_LW_law_1534 : decode code 1534 = .ok (.if_icmp .eq 5, 3) := by decide +kernel
theorem d_LW_law_1537 : decode code 1537 = .ok (.iconst 0, 1) := by decide +kernel
theorem d_LW_law_1538 : decode code 1538 = .ok (.ireturn, 1) := by decide +kernel
theorem d_LW_law_1539 : decode code 1539 = .ok (.iload 5, 2) := by decide +kernel
theorem d_LW_law_1541 : decode code 1541 = .ok (.ifCond .ne 15, 3) := by decide +kernel
theorem d_LW_law_1544 : decode code 1544 = .ok (.aload_n 3, 1) := by decide +kernel
theorem d_LW_law_1545 : decode code 1545 = .ok (.iconst 0, 1) := by decide +kernel
theorem d_LW_law_1546 : decode code 1546 = .ok (.laload, 1) := by decide +kernel
theorem d_LW_law_1547 : decode code 1547 = .ok (.iload 6, 2) := by decide +kernel
theorem d_LW_law_1549 : decode code 1549 = .ok (.i2l, 1) := by decide +kernel
theorem d_LW_law_1550 : decode code 1550 = .ok (.lcmp, 1) := by decide +kernel
theorem d_LW_law_1551 : decode code 1551 = .ok (.ifCond .eq 5, 3) := by decide +kernel
theorem d_LW_law_1554 : decode code 1554 = .ok (.iconst 0, 1) := by decide +kernel
theorem d_LW_law_1555 : decode code 1555 = .ok (.ireturn, 1) := by decide +kernel
theorem d_LW_law_1556 : decode code 1556 = .ok (.goto 408, 3) := by decide +kernel
theorem d_LW_law_1559 : decode code 1559 = .ok (.aload_n 1, 1) := by decide +kernel
theorem d_LW_law_1560 : decode code 1560 = .ok (.invokevirtual 192, 3) := by decide +kernel
theorem d_LW_law_1563 : decode code 1563 = .ok (.aload_n 2, 1) := by decide +kernel
theorem d_LW_law_1564 : decode code 1564 = .ok (.invokevirtual 195, 3) := by decide +kernel
theorem d_LW_law_1567 : decode code 1567 = .ok (.if_icmp .eq 397, 3) := by decide +kernel
theorem d_LW_law_1570 : decode code 1570 = .ok (.iconst 0, 1) := by decide +kernel
theorem d_LW_law_1571 : decode code 1571 = .ok (.ireturn, 1) := by decide +kernel
theorem d_LW_law_1572 : decode code 1572 = .ok (.aload_n 1, 1) := by decide +kernel
theorem d_LW_law_1573 : decode code 1573 = .ok (.aload_n 0, 1) := by decide +kernel
theorem d_LW_law_1574 : decode code 1574 = .ok (.iload 4, 2) := by decide +kernel
theorem d_LW_law_1576 : decode code 1576 = .ok (.iconst 1, 1) := by decide +kernel
theorem d_LW_law_1577 : decode code 1577 = .ok (.iadd, 1) := by decide +kernel
theorem d_LW_law_1578 : decode code 1578 = .ok (.iaload, 1) := by decide +kernel
theorem d_LW_law_1579 : decode code 1579 = .ok (.aload_n 0, 1) := by decide +kernel
theorem d_LW_law_1580 : decode code 1580 = .ok (.iload 4, 2) := by decide +kernel
theorem d_LW_law_1582 : decode code 1582 = .ok (.iconst 2, 1) := by decide +kernel
theorem d_LW_law_1583 : decode code 1583 = .ok (.iadd, 1) := by decide +kernel
theorem d_LW_law_1584 : decode code 1584 = .ok (.iaload, 1) := by decide +kernel
theorem d_LW_law_1585 : decode code 1585 = .ok (.aload_n 0, 1) := by decide +kernel
theorem d_LW_law_1586 : decode code 1586 = .ok (.iload 4, 2) := by decide +kernel
theorem d_LW_law_1588 : decode code 1588 = .ok (.iconst 3, 1) := by decide +kernel
theorem d_LW_law_1589 : decode code 1589 = .ok (.iadd, 1) := by decide +kernel
theorem d_LW_law_1590 : decode code 1590 = .ok (.iaload, 1) := by decide +kernel
theorem d_LW_law_1591 : decode code 1591 = .ok (.aload_n 3, 1) := by decide +kernel
theorem d_LW_law_1592 : decode code 1592 = .ok (.invokestatic 196, 3) := by decide +kernel
theorem d_LW_law_1595 : decode code 1595 = .ok (.istore 5, 2) := by decide +kernel
theorem d_LW_law_1597 : decode code 1597 = .ok (.aload_n 2, 1) := by decide +kernel
theorem d_LW_law_1598 : decode code 1598 = .ok (.aload_n 0, 1) := by decide +kernel
theorem d_LW_law_1599 : decode code 1599 = .ok (.iload 4, 2) := by decide +kernel
theorem d_LW_law_1601 : decode code 1601 = .ok (.iconst 1, 1) := by decide +kernel
theorem d_LW_law_1602 : decode code 1602 = .ok (.iadd, 1) := by decide +kernel
theorem d_LW_law_1603 : decode code 1603 = .ok (.iaload, 1) := by decide +kernel
theorem d_LW_law_1604 : decode code 1604 = .ok (.aload_n 0, 1) := by decide +kernel
theorem d_LW_law_1605 : decode code 1605 = .ok (.iload 4, 2) := by decide +kernel
theorem d_LW_law_1607 : decode code 1607 = .ok (.iconst 2, 1) := by decide +kernel
theorem d_LW_law_1608 : decode code 1608 = .ok (.iadd, 1) := by decide +kernel
theorem d_LW_law_1609 : decode code 1609 = .ok (.iaload, 1) := by decide +kernel
theorem d_LW_law_1610 : decode code 1610 = .ok (.aload_n 0, 1) := by decide +kernel
theorem d_LW_law_1611 : decode code 1611 = .ok (.iload 4, 2) := by decide +kernel
theorem d_LW_law_1613 : decode code 1613 = .ok (.iconst 3, 1) := by decide +kernel
theorem d_LW_law_1614 : decode code 1614 = .ok (.iadd, 1) := by decide +kernel
theorem d_LW_law_1615 : decode code 1615 = .ok (.iaload, 1) := by decide +kernel
theorem d_LW_law_1616 : decode code 1616 = .ok (.invokevirtual 198, 3) := by decide +kernel
theorem d_LW_law_1619 : decode code 1619 = .ok (.istore 6, 2) := by decide +kernel
theorem d_LW_law_1621 : decode code 1621 = .ok (.aload_n 2, 1) := by decide +kernel
theorem d_LW_law_1622 : decode code 1622 = .ok (.invokevirtual 110, 3) := by decide +kernel
theorem d_LW_law_1625 : decode code 1625 = .ok (.iload 5, 2) := by decide +kernel
theorem d_LW_law_1627 : decode code 1627 = .ok (.if_icmp .eq 5, 3) := by decide +kernel
theorem d_LW_law_1630 : decode code 1630 = .ok (.iconst 0, 1) := by decide +kernel
theorem d_LW_law_1631 : decode code 1631 = .ok (.ireturn, 1) := by decide +kernel
theorem d_LW_law_1632 : decode code 1632 = .ok (.iload 5, 2) := by decide +kernel
theorem d_LW_law_1634 : decode code 1634 = .ok (.ifCond .ne 15, 3) := by decide +kernel
theorem d_LW_law_1637 : decode code 1637 = .ok (.aload_n 3, 1) := by decide +kernel
theorem d_LW_law_1638 : decode code 1638 = .ok (.iconst 0, 1) := by decide +kernel
theorem d_LW_law_1639 : decode code 1639 = .ok (.laload, 1) := by decide +kernel
theorem d_LW_law_1640 : decode code 1640 = .ok (.iload 6, 2) := by decide +kernel
theorem d_LW_law_1642 : decode code 1642 = .ok (.i2l, 1) := by decide +kernel
theorem d_LW_law_1643 : decode code 1643 = .ok (.lcmp, 1) := by decide +kernel
theorem d_LW_law_1644 : decode code 1644 = .ok (.ifCond .eq 5, 3) := by decide +kernel
theorem d_LW_law_1647 : decode code 1647 = .ok (.iconst 0, 1) := by decide +kernel
theorem d_LW_law_1648 : decode code 1648 = .ok (.ireturn, 1) := by decide +kernel
theorem d_LW_law_1649 : decode code 1649 = .ok (.goto 315, 3) := by decide +kernel
theorem d_LW_law_1652 : decode code 1652 = .ok (.aload_n 1, 1) := by decide +kernel
theorem d_LW_law_1653 : decode code 1653 = .ok (.aload_n 0, 1) := by decide +kernel
theorem d_LW_law_1654 : decode code 1654 = .ok (.iload 4, 2) := by decide +kernel
theorem d_LW_law_1656 : decode code 1656 = .ok (.iconst 1, 1) := by decide +kernel
theorem d_LW_law_1657 : decode code 1657 = .ok (.iadd, 1) := by decide +kernel
theorem d_LW_law_1658 : decode code 1658 = .ok (.iaload, 1) := by decide +kernel
theorem d_LW_law_1659 : decode code 1659 = .ok (.aload_n 0, 1) := by decide +kernel
theorem d_LW_law_1660 : decode code 1660 = .ok (.iload 4, 2) := by decide +kernel
theorem d_LW_law_1662 : decode code 1662 = .ok (.iconst 2, 1) := by decide +kernel
theorem d_LW_law_1663 : decode code 1663 = .ok (.iadd, 1) := by decide +kernel
theorem d_LW_law_1664 : decode code 1664 = .ok (.iaload, 1) := by decide +kernel
theorem d_LW_law_1665 : decode code 1665 = .ok (.i2l, 1) := by decide +kernel
theorem d_LW_law_1666 : decode code 1666 = .ok (.bipush 32, 2) := by decide +kernel
theorem d_LW_law_1668 : decode code 1668 = .ok (.lshl, 1) := by decide +kernel
theorem d_LW_law_1669 : decode code 1669 = .ok (.aload_n 0, 1) := by decide +kernel
theorem d_LW_law_1670 : decode code 1670 = .ok (.iload 4, 2) := by decide +kernel
theorem d_LW_law_1672 : decode code 1672 = .ok (.iconst 3, 1) := by decide +kernel
theorem d_LW_law_1673 : decode code 1673 = .ok (.iadd, 1) := by decide +kernel
theorem d_LW_law_1674 : decode code 1674 = .ok (.iaload, 1) := by decide +kernel
theorem d_LW_law_1675 : decode code 1675 = .ok (.i2l, 1) := by decide +kernel
theorem d_LW_law_1676 : decode code 1676 = .ok (.ldc2_w 199, 3) := by decide +kernel
theorem d_LW_law_1679 : decode code 1679 = .ok (.land, 1) := by decide +kernel
theorem d_LW_law_1680 : decode code 1680 = .ok (.lor, 1) := by decide +kernel
theorem d_LW_law_1681 : decode code 1681 = .ok (.aload_n 3, 1) := by decide +kernel
theorem d_LW_law_1682 : decode code 1682 = .ok (.invokestatic 201, 3) := by decide +kernel
theorem d_LW_law_1685 : decode code 1685 = .ok (.istore 5, 2) := by decide +kernel
theorem d_LW_law_1687 : decode code 1687 = .ok (.aload_n 2, 1) := by decide +kernel
theorem d_LW_law_1688 : decode code 1688 = .ok (.aload_n 0, 1) := by decide +kernel
theorem d_LW_law_1689 : decode code 1689 = .ok (.iload 4, 2) := by decide +kernel
theorem d_LW_law_1691 : decode code 1691 = .ok (.iconst 1, 1) := by decide +kernel
theorem d_LW_law_1692 : decode code 1692 = .ok (.iadd, 1) := by decide +kernel
theorem d_LW_law_1693 : decode code 1693 = .ok (.iaload, 1) := by decide +kernel
theorem d_LW_law_1694 : decode code 1694 = .ok (.aload_n 0, 1) := by decide +kernel
theorem d_LW_law_1695 : decode code 1695 = .ok (.iload 4, 2) := by decide +kernel
theorem d_LW_law_1697 : decode code 1697 = .ok (.iconst 2, 1) := by decide +kernel
theorem d_LW_law_1698 : decode code 1698 = .ok (.iadd, 1) := by decide +kernel
theorem d_LW_law_1699 : decode code 1699 = .ok (.iaload, 1) := by decide +kernel
theorem d_LW_law_1700 : decode code 1700 = .ok (.i2l, 1) := by decide +kernel
theorem d_LW_law_1701 : decode code 1701 = .ok (.bipush 32, 2) := by decide +kernel
theorem d_LW_law_1703 : decode code 1703 = .ok (.lshl, 1) := by decide +kernel
theorem d_LW_law_1704 : decode code 1704 = .ok (.aload_n 0, 1) := by decide +kernel
theorem d_LW_law_1705 : decode code 1705 = .ok (.iload 4, 2) := by decide +kernel
theorem d_LW_law_1707 : decode code 1707 = .ok (.iconst 3, 1) := by decide +kernel
theorem d_LW_law_1708 : decode code 1708 = .ok (.iadd, 1) := by decide +kernel
theorem d_LW_law_1709 : decode code 1709 = .ok (.iaload, 1) := by decide +kernel
theorem d_LW_law_1710 : decode code 1710 = .ok (.i2l, 1) := by decide +kernel
theorem d_LW_law_1711 : decode code 1711 = .ok (.ldc2_w 199, 3) := by decide +kernel
theorem d_LW_law_1714 : decode code 1714 = .ok (.land, 1) := by decide +kernel
theorem d_LW_law_1715 : decode code 1715 = .ok (.lor, 1) := by decide +kernel
theorem d_LW_law_1716 : decode code 1716 = .ok (.invokevirtual 204, 3) := by decide +kernel
theorem d_LW_law_1719 : decode code 1719 = .ok (.istore 6, 2) := by decide +kernel
theorem d_LW_law_1721 : decode code 1721 = .ok (.aload_n 2, 1) := by decide +kernel
theorem d_LW_law_1722 : decode code 1722 = .ok (.invokevirtual 110, 3) := by decide +kernel
theorem d_LW_law_1725 : decode code 1725 = .ok (.iload 5, 2) := by decide +kernel
theorem d_LW_law_1727 : decode code 1727 = .ok (.if_icmp .eq 5, 3) := by decide +kernel
theorem d_LW_law_1730 : decode code 1730 = .ok (.iconst 0, 1) := by decide +kernel
theorem d_LW_law_1731 : decode code 1731 = .ok (.ireturn, 1) := by decide +kernel
theorem d_LW_law_1732 : decode code 1732 = .ok (.iload 5, 2) := by decide +kernel
theorem d_LW_law_1734 : decode code 1734 = .ok (.ifCond .ne 15, 3) := by decide +kernel
theorem d_LW_law_1737 : decode code 1737 = .ok (.aload_n 3, 1) := by decide +kernel
theorem d_LW_law_1738 : decode code 1738 = .ok (.iconst 0, 1) := by decide +kernel
theorem d_LW_law_1739 : decode code 1739 = .ok (.laload, 1) := by decide +kernel
theorem d_LW_law_1740 : decode code 1740 = .ok (.iload 6, 2) := by decide +kernel
theorem d_LW_law_1742 : decode code 1742 = .ok (.i2l, 1) := by decide +kernel
theorem d_LW_law_1743 : decode code 1743 = .ok (.lcmp, 1) := by decide +kernel
theorem d_LW_law_1744 : decode code 1744 = .ok (.ifCond .eq 5, 3) := by decide +kernel
theorem d_LW_law_1747 : decode code 1747 = .ok (.iconst 0, 1) := by decide +kernel
theorem d_LW_law_1748 : decode code 1748 = .ok (.ireturn, 1) := by decide +kernel
theorem d_LW_law_1749 : decode code 1749 = .ok (.goto 215, 3) := by decide +kernel
theorem d_LW_law_1752 : decode code 1752 = .ok (.aload_n 1, 1) := by decide +kernel
theorem d_LW_law_1753 : decode code 1753 = .ok (.aload_n 0, 1) := by decide +kernel
theorem d_LW_law_1754 : decode code 1754 = .ok (.iload 4, 2) := by decide +kernel
theorem d_LW_law_1756 : decode code 1756 = .ok (.iconst 1, 1) := by decide +kernel
theorem d_LW_law_1757 : decode code 1757 = .ok (.iadd, 1) := by decide +kernel
theorem d_LW_law_1758 : decode code 1758 = .ok (.iaload, 1) := by decide +kernel
theorem d_LW_law_1759 : decode code 1759 = .ok (.i2l, 1) := by decide +kernel
theorem d_LW_law_1760 : decode code 1760 = .ok (.bipush 32, 2) := by decide +kernel
theorem d_LW_law_1762 : decode code 1762 = .ok (.lshl, 1) := by decide +kernel
theorem d_LW_law_1763 : decode code 1763 = .ok (.aload_n 0, 1) := by decide +kernel
theorem d_LW_law_1764 : decode code 1764 = .ok (.iload 4, 2) := by decide +kernel
theorem d_LW_law_1766 : decode code 1766 = .ok (.iconst 2, 1) := by decide +kernel
theorem d_LW_law_1767 : decode code 1767 = .ok (.iadd, 1) := by decide +kernel
theorem d_LW_law_1768 : decode code 1768 = .ok (.iaload, 1) := by decide +kernel
theorem d_LW_law_1769 : decode code 1769 = .ok (.i2l, 1) := by decide +kernel
theorem d_LW_law_1770 : decode code 1770 = .ok (.ldc2_w 199, 3) := by decide +kernel
theorem d_LW_law_1773 : decode code 1773 = .ok (.land, 1) := by decide +kernel
theorem d_LW_law_1774 : decode code 1774 = .ok (.lor, 1) := by decide +kernel
theorem d_LW_law_1775 : decode code 1775 = .ok (.aload_n 0, 1) := by decide +kernel
theorem d_LW_law_1776 : decode code 1776 = .ok (.iload 4, 2) := by decide +kernel
theorem d_LW_law_1778 : decode code 1778 = .ok (.iconst 3, 1) := by decide +kernel
theorem d_LW_law_1779 : decode code 1779 = .ok (.iadd, 1) := by decide +kernel
theorem d_LW_law_1780 : decode code 1780 = .ok (.iaload, 1) := by decide +kernel
theorem d_LW_law_1781 : decode code 1781 = .ok (.aload_n 3, 1) := by decide +kernel
theorem d_LW_law_1782 : decode code 1782 = .ok (.invokestatic 205, 3) := by decide +kernel
theorem d_LW_law_1785 : decode code 1785 = .ok (.istore 5, 2) := by decide +kernel
theorem d_LW_law_1787 : decode code 1787 = .ok (.aload_n 2, 1) := by decide +kernel
theorem d_LW_law_1788 : decode code 1788 = .ok (.aload_n 0, 1) := by decide +kernel
theorem d_LW_law_1789 : decode code 1789 = .ok (.iload 4, 2) := by decide +kernel
theorem d_LW_law_1791 : decode code 1791 = .ok (.iconst 1, 1) := by decide +kernel
theorem d_LW_law_1792 : decode code 1792 = .ok (.iadd, 1) := by decide +kernel
theorem d_LW_law_1793 : decode code 1793 = .ok (.iaload, 1) := by decide +kernel
theorem d_LW_law_1794 : decode code 1794 = .ok (.i2l, 1) := by decide +kernel
theorem d_LW_law_1795 : decode code 1795 = .ok (.bipush 32, 2) := by decide +kernel
theorem d_LW_law_1797 : decode code 1797 = .ok (.lshl, 1) := by decide +kernel
theorem d_LW_law_1798 : decode code 1798 = .ok (.aload_n 0, 1) := by decide +kernel
theorem d_LW_law_1799 : decode code 1799 = .ok (.iload 4, 2) := by decide +kernel
theorem d_LW_law_1801 : decode code 1801 = .ok (.iconst 2, 1) := by decide +kernel
theorem d_LW_law_1802 : decode code 1802 = .ok (.iadd, 1) := by decide +kernel
theorem d_LW_law_1803 : decode code 1803 = .ok (.iaload, 1) := by decide +kernel
theorem d_LW_law_1804 : decode code 1804 = .ok (.i2l, 1) := by decide +kernel
theorem d_LW_law_1805 : decode code 1805 = .ok (.ldc2_w 199, 3) := by decide +kernel
theorem d_LW_law_1808 : decode code 1808 = .ok (.land, 1) := by decide +kernel
theorem d_LW_law_1809 : decode code 1809 = .ok (.lor, 1) := by decide +kernel
theorem d_LW_law_1810 : decode code 1810 = .ok (.aload_n 0, 1) := by decide +kernel
theorem d_LW_law_1811 : decode code 1811 = .ok (.iload 4, 2) := by decide +kernel
theorem d_LW_law_1813 : decode code 1813 = .ok (.iconst 3, 1) := by decide +kernel
theorem d_LW_law_1814 : decode code 1814 = .ok (.iadd, 1) := by decide +kernel
theorem d_LW_law_1815 : decode code 1815 = .ok (.iaload, 1) := by decide +kernel
theorem d_LW_law_1816 : decode code 1816 = .ok (.invokevirtual 208, 3) := by decide +kernel
theorem d_LW_law_1819 : decode code 1819 = .ok (.istore 6, 2) := by decide +kernel
theorem d_LW_law_1821 : decode code 1821 = .ok (.aload_n 2, 1) := by decide +kernel
theorem d_LW_law_1822 : decode code 1822 = .ok (.invokevirtual 110, 3) := by decide +kernel
theorem d_LW_law_1825 : decode code 1825 = .ok (.iload 5, 2) := by decide +kernel
theorem d_LW_law_1827 : decode code 1827 = .ok (.if_icmp .eq 5, 3) := by decide +kernel
theorem d_LW_law_1830 : decode code 1830 = .ok (.iconst 0, 1) := by decide +kernel
theorem d_LW_law_1831 : decode code 1831 = .ok (.ireturn, 1) := by decide +kernel
theorem d_LW_law_1832 : decode code 1832 = .ok (.iload 5, 2) := by decide +kernel
theorem d_LW_law_1834 : decode code 1834 = .ok (.ifCond .ne 15, 3) := by decide +kernel
theorem d_LW_law_1837 : decode code 1837 = .ok (.aload_n 3, 1) := by decide +kernel
theorem d_LW_law_1838 : decode code 1838 = .ok (.iconst 0, 1) := by decide +kernel
theorem d_LW_law_1839 : decode code 1839 = .ok (.laload, 1) := by decide +kernel
theorem d_LW_law_1840 : decode code 1840 = .ok (.iload 6, 2) := by decide +kernel
theorem d_LW_law_1842 : decode code 1842 = .ok (.i2l, 1) := by decide +kernel
theorem d_LW_law_1843 : decode code 1843 = .ok (.lcmp, 1) := by decide +kernel
theorem d_LW_law_1844 : decode code 1844 = .ok (.ifCond .eq 5, 3) := by decide +kernel
theorem d_LW_law_1847 : decode code 1847 = .ok (.iconst 0, 1) := by decide +kernel
theorem d_LW_law_1848 : decode code 1848 = .ok (.ireturn, 1) := by decide +kernel
theorem d_LW_law_1849 : decode code 1849 = .ok (.goto 115, 3) := by decide +kernel
theorem d_LW_law_1852 : decode code 1852 = .ok (.aload_n 1, 1) := by decide +kernel
theorem d_LW_law_1853 : decode code 1853 = .ok (.aload_n 0, 1) := by decide +kernel
theorem d_LW_law_1854 : decode code 1854 = .ok (.iload 4, 2) := by decide +kernel
theorem d_LW_law_1856 : decode code 1856 = .ok (.iconst 1, 1) := by decide +kernel
theorem d_LW_law_1857 : decode code 1857 = .ok (.iadd, 1) := by decide +kernel
theorem d_LW_law_1858 : decode code 1858 = .ok (.iaload, 1) := by decide +kernel
theorem d_LW_law_1859 : decode code 1859 = .ok (.aload_n 3, 1) := by decide +kernel
theorem d_LW_law_1860 : decode code 1860 = .ok (.invokestatic 209, 3) := by decide +kernel
theorem d_LW_law_1863 : decode code 1863 = .ok (.istore 5, 2) := by decide +kernel
theorem d_LW_law_1865 : decode code 1865 = .ok (.aload_n 2, 1) := by decide +kernel
theorem d_LW_law_1866 : decode code 1866 = .ok (.aload_n 0, 1) := by decide +kernel
theorem d_LW_law_1867 : decode code 1867 = .ok (.iload 4, 2) := by decide +kernel
theorem d_LW_law_1869 : decode code 1869 = .ok (.iconst 1, 1) := by decide +kernel
theorem d_LW_law_1870 : decode code 1870 = .ok (.iadd, 1) := by decide +kernel
theorem d_LW_law_1871 : decode code 1871 = .ok (.iaload, 1) := by decide +kernel
theorem d_LW_law_1872 : decode code 1872 = .ok (.invokevirtual 211, 3) := by decide +kernel
theorem d_LW_law_1875 : decode code 1875 = .ok (.istore 6, 2) := by decide +kernel
theorem d_LW_law_1877 : decode code 1877 = .ok (.aload_n 2, 1) := by decide +kernel
theorem d_LW_law_1878 : decode code 1878 = .ok (.invokevirtual 110, 3) := by decide +kernel
theorem d_LW_law_1881 : decode code 1881 = .ok (.iload 5, 2) := by decide +kernel
theorem d_LW_law_1883 : decode code 1883 = .ok (.if_icmp .eq 5, 3) := by decide +kernel
theorem d_LW_law_1886 : decode code 1886 = .ok (.iconst 0, 1) := by decide +kernel
theorem d_LW_law_1887 : decode code 1887 = .ok (.ireturn, 1) := by decide +kernel
theorem d_LW_law_1888 : decode code 1888 = .ok (.iload 5, 2) := by decide +kernel
theorem d_LW_law_1890 : decode code 1890 = .ok (.ifCond .ne 15, 3) := by decide +kernel
theorem d_LW_law_1893 : decode code 1893 = .ok (.aload_n 3, 1) := by decide +kernel
theorem d_LW_law_1894 : decode code 1894 = .ok (.iconst 0, 1) := by decide +kernel
theorem d_LW_law_1895 : decode code 1895 = .ok (.laload, 1) := by decide +kernel
theorem d_LW_law_1896 : decode code 1896 = .ok (.iload 6, 2) := by decide +kernel
theorem d_LW_law_1898 : decode code 1898 = .ok (.i2l, 1) := by decide +kernel
theorem d_LW_law_1899 : decode code 1899 = .ok (.lcmp, 1) := by decide +kernel
theorem d_LW_law_1900 : decode code 1900 = .ok (.ifCond .eq 5, 3) := by decide +kernel
theorem d_LW_law_1903 : decode code 1903 = .ok (.iconst 0, 1) := by decide +kernel
theorem d_LW_law_1904 : decode code 1904 = .ok (.ireturn, 1) := by decide +kernel
theorem d_LW_law_1905 : decode code 1905 = .ok (.goto 59, 3) := by decide +kernel
theorem d_LW_law_1908 : decode code 1908 = .ok (.aload_n 1, 1) := by decide +kernel
theorem d_LW_law_1909 : decode code 1909 = .ok (.aload_n 0, 1) := by decide +kernel
theorem d_LW_law_1910 : decode code 1910 = .ok (.iload 4, 2) := by decide +kernel
theorem d_LW_law_1912 : decode code 1912 = .ok (.iconst 1, 1) := by decide +kernel
theorem d_LW_law_1913 : decode code 1913 = .ok (.iadd, 1) := by decide +kernel
theorem d_LW_law_1914 : decode code 1914 = .ok (.iaload, 1) := by decide +kernel
theorem d_LW_law_1915 : decode code 1915 = .ok (.aload_n 3, 1) := by decide +kernel
theorem d_LW_law_1916 : decode code 1916 = .ok (.invokestatic 212, 3) := by decide +kernel
theorem d_LW_law_1919 : decode code 1919 = .ok (.istore 5, 2) := by decide +kernel
theorem d_LW_law_1921 : decode code 1921 = .ok (.aload_n 2, 1) := by decide +kernel
theorem d_LW_law_1922 : decode code 1922 = .ok (.aload_n 0, 1) := by decide +kernel
theorem d_LW_law_1923 : decode code 1923 = .ok (.iload 4, 2) := by decide +kernel
theorem d_LW_law_1925 : decode code 1925 = .ok (.iconst 1, 1) := by decide +kernel
theorem d_LW_law_1926 : decode code 1926 = .ok (.iadd, 1) := by decide +kernel
theorem d_LW_law_1927 : decode code 1927 = .ok (.iaload, 1) := by decide +kernel
theorem d_LW_law_1928 : decode code 1928 = .ok (.invokevirtual 214, 3) := by decide +kernel
theorem d_LW_law_1931 : decode code 1931 = .ok (.istore 6, 2) := by decide +kernel
theorem d_LW_law_1933 : decode code 1933 = .ok (.aload_n 2, 1) := by decide +kernel
theorem d_LW_law_1934 : decode code 1934 = .ok (.invokevirtual 110, 3) := by decide +kernel
theorem d_LW_law_1937 : decode code 1937 = .ok (.iload 5, 2) := by decide +kernel
theorem d_LW_law_1939 : decode code 1939 = .ok (.if_icmp .eq 5, 3) := by decide +kernel
theorem d_LW_law_1942 : decode code 1942 = .ok (.iconst 0, 1) := by decide +kernel
theorem d_LW_law_1943 : decode code 1943 = .ok (.ireturn, 1) := by decide +kernel
theorem d_LW_law_1944 : decode code 1944 = .ok (.iload 5, 2) := by decide +kernel
theorem d_LW_law_1946 : decode code 1946 = .ok (.ifCond .ne 15, 3) := by decide +kernel
theorem d_LW_law_1949 : decode code 1949 = .ok (.aload_n 3, 1) := by decide +kernel
theorem d_LW_law_1950 : decode code 1950 = .ok (.iconst 0, 1) := by decide +kernel
theorem d_LW_law_1951 : decode code 1951 = .ok (.laload, 1) := by decide +kernel
theorem d_LW_law_1952 : decode code 1952 = .ok (.iload 6, 2) := by decide +kernel
theorem d_LW_law_1954 : decode code 1954 = .ok (.i2l, 1) := by decide +kernel
theorem d_LW_law_1955 : decode code 1955 = .ok (.lcmp, 1) := by decide +kernel
theorem d_LW_law_1956 : decode code 1956 = .ok (.ifCond .eq 5, 3) := by decide +kernel
theorem d_LW_law_1959 : decode code 1959 = .ok (.iconst 0, 1) := by decide +kernel
theorem d_LW_law_1960 : decode code 1960 = .ok (.ireturn, 1) := by decide +kernel
theorem d_LW_law_1961 : decode code 1961 = .ok (.goto 3, 3) := by decide +kernel
theorem d_LW_law_1964 : decode code 1964 = .ok (.iinc 4 4, 3) := by decide +kernel
theorem d_LW_law_1967 : decode code 1967 = .ok (.goto (-1944), 3) := by decide +kernel
theorem d_LW_law_1970 : decode code 1970 = .ok (.iconst 1, 1) := by decide +kernel
theorem d_LW_law_1971 : decode code 1971 = .ok (.ireturn, 1) := by decide +kernel
