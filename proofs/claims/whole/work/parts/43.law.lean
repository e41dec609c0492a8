/-! LAYER 1r: the law's cases, over an interface to the pure texts -/
abbrev NN : Nat := 1000000000000
theorem hidx {i : Int} {Lx : Nat} {k : Int} (h0 : 0 ≤ i) (h1 : i + 5 < (Lx : Int)) (hx : Lx ≤ 3072) (hk : 0 ≤ k ∧ k ≤ 5) : 0 ≤ w32 (i + k) ∧ w32 (i + k) < (Lx : Int) := by
  rw [w32_id ⟨by omega, by omega⟩]
  omega
theorem cmpL_self (r : Int) : cmpL r r = 0 := by
  unfold cmpL
  rw [if_neg (by omega), if_pos rfl]
section
variable {own : String} {cc : ByteArray} {nL : Nat} {ret : Option FieldType} {d : Nat} {Sh : JSh} {ρ : JRo} {pc : Nat} {L : List (Nat × JV)} {S : List JV} {σ : JSg} {Z : Type} {dec : Z → JD} {o : Option Z}
theorem kn_icmp_eq {tgt : Nat} {off x y : Int} (h : x = y) (hd : decode cc pc = .ok (.if_icmp .eq off, 3)) (ht : (pc : Int) + off = (tgt : Int)) (k : GSim own cc nL ret d Sh ρ tgt L S σ dec o) : GSim own cc nL ret d Sh ρ pc L (vI y :: vI x :: S) σ dec o := by
  have h9 := sim_icmp_eq (x := x) (y := y) (of := none) hd ht k sim_none
  rwa [if_pos h] at h9
theorem kn_if_eq {tgt : Nat} {off x : Int} (h : x = 0) (hd : decode cc pc = .ok (.ifCond .eq off, 3)) (ht : (pc : Int) + off = (tgt : Int)) (k : GSim own cc nL ret d Sh ρ tgt L S σ dec o) : GSim own cc nL ret d Sh ρ pc L (vI x :: S) σ dec o := by
  have h9 := sim_if_eq (x := x) (of := none) hd ht k sim_none
  rwa [if_pos h] at h9
theorem sw_const {x lo : Int} {n : Nat} : sw_ x lo (List.replicate n o) o = o := by
  unfold sw_
  split
  · rfl
  · cases h : (List.replicate n o)[(x - lo).toNat]? with
    | none => rfl
    | some v => rw [List.eq_of_mem_replicate (List.mem_of_getElem? h)]; rfl
end
theorem dL_law_0 : decode cL_law 0 = .ok (.new 8, 3) := by decide +kernel
theorem dL_law_3 : decode cL_law 3 = .ok (.dup, 1) := by decide +kernel
theorem dL_law_4 : decode cL_law 4 = .ok (.invokespecial 15, 3) := by decide +kernel
theorem dL_law_7 : decode cL_law 7 = .ok (.astore_n 1, 1) := by decide +kernel
theorem dL_law_8 : decode cL_law 8 = .ok (.new 16, 3) := by decide +kernel
theorem dL_law_11 : decode cL_law 11 = .ok (.dup, 1) := by decide +kernel
theorem dL_law_12 : decode cL_law 12 = .ok (.invokespecial 18, 3) := by decide +kernel
theorem dL_law_15 : decode cL_law 15 = .ok (.astore_n 2, 1) := by decide +kernel
theorem dL_law_16 : decode cL_law 16 = .ok (.iconst 1, 1) := by decide +kernel
theorem dL_law_17 : decode cL_law 17 = .ok (.newarray .long, 2) := by decide +kernel
theorem dL_law_19 : decode cL_law 19 = .ok (.astore_n 3, 1) := by decide +kernel
theorem dL_law_20 : decode cL_law 20 = .ok (.iconst 0, 1) := by decide +kernel
theorem dL_law_21 : decode cL_law 21 = .ok (.istore 4, 2) := by decide +kernel
theorem dL_law_23 : decode cL_law 23 = .ok (.iload 4, 2) := by decide +kernel
theorem dL_law_25 : decode cL_law 25 = .ok (.aload_n 0, 1) := by decide +kernel
theorem dL_law_26 : decode cL_law 26 = .ok (.arraylength, 1) := by decide +kernel
theorem dL_law_27 : decode cL_law 27 = .ok (.bipush 6, 2) := by decide +kernel
theorem dL_law_29 : decode cL_law 29 = .ok (.isub, 1) := by decide +kernel
theorem dL_law_30 : decode cL_law 30 = .ok (.if_icmp .gt 1447, 3) := by decide +kernel
theorem dL_law_33 : decode cL_law 33 = .ok (.aload_n 0, 1) := by decide +kernel
theorem dL_law_34 : decode cL_law 34 = .ok (.iload 4, 2) := by decide +kernel
theorem dL_law_36 : decode cL_law 36 = .ok (.iaload, 1) := by decide +kernel
theorem dL_law_37 : decode cL_law 37 = .ok (.bipush 63, 2) := by decide +kernel
theorem dL_law_39 : decode cL_law 39 = .ok (.iand, 1) := by decide +kernel
theorem dL_law_40 : decode cL_law 40 = .ok (.tableswitch 1431 0 45 #[200, 273, 298, 311, 324, 392, 429, 466, 503, 528, 553, 602, 651, 676, 689, 714, 739, 776, 789, 814, 839, 852, 877, 890, 915, 952, 965, 990, 1003, 1040, 1053, 1090, 1103, 1116, 1130, 1168, 1193, 1230, 1255, 1268, 1293, 1318, 1331, 1356, 1381, 1406], 200) := by decide +kernel
theorem dL_law_240 : decode cL_law 240 = .ok (.aload_n 1, 1) := by decide +kernel
theorem dL_law_241 : decode cL_law 241 = .ok (.aload_n 0, 1) := by decide +kernel
theorem dL_law_242 : decode cL_law 242 = .ok (.iload 4, 2) := by decide +kernel
theorem dL_law_244 : decode cL_law 244 = .ok (.iconst 1, 1) := by decide +kernel
theorem dL_law_245 : decode cL_law 245 = .ok (.iadd, 1) := by decide +kernel
theorem dL_law_246 : decode cL_law 246 = .ok (.iaload, 1) := by decide +kernel
theorem dL_law_247 : decode cL_law 247 = .ok (.aload_n 0, 1) := by decide +kernel
theorem dL_law_248 : decode cL_law 248 = .ok (.iload 4, 2) := by decide +kernel
theorem dL_law_250 : decode cL_law 250 = .ok (.iconst 2, 1) := by decide +kernel
theorem dL_law_251 : decode cL_law 251 = .ok (.iadd, 1) := by decide +kernel
theorem dL_law_252 : decode cL_law 252 = .ok (.iaload, 1) := by decide +kernel
theorem dL_law_253 : decode cL_law 253 = .ok (.aload_n 0, 1) := by decide +kernel
theorem dL_law_254 : decode cL_law 254 = .ok (.iload 4, 2) := by decide +kernel
theorem dL_law_256 : decode cL_law 256 = .ok (.iconst 3, 1) := by decide +kernel
theorem dL_law_257 : decode cL_law 257 = .ok (.iadd, 1) := by decide +kernel
theorem dL_law_258 : decode cL_law 258 = .ok (.iaload, 1) := by decide +kernel
theorem dL_law_259 : decode cL_law 259 = .ok (.aload_n 0, 1) := by decide +kernel
theorem dL_law_260 : decode cL_law 260 = .ok (.iload 4, 2) := by decide +kernel
theorem dL_law_262 : decode cL_law 262 = .ok (.iconst 4, 1) := by decide +kernel
theorem dL_law_263 : decode cL_law 263 = .ok (.iadd, 1) := by decide +kernel
theorem dL_law_264 : decode cL_law 264 = .ok (.iaload, 1) := by decide +kernel
theorem dL_law_265 : decode cL_law 265 = .ok (.aload_n 0, 1) := by decide +kernel
theorem dL_law_266 : decode cL_law 266 = .ok (.iload 4, 2) := by decide +kernel
theorem dL_law_268 : decode cL_law 268 = .ok (.iconst 5, 1) := by decide +kernel
theorem dL_law_269 : decode cL_law 269 = .ok (.iadd, 1) := by decide +kernel
theorem dL_law_270 : decode cL_law 270 = .ok (.iaload, 1) := by decide +kernel
theorem dL_law_271 : decode cL_law 271 = .ok (.invokevirtual 19, 3) := by decide +kernel
theorem dL_law_274 : decode cL_law 274 = .ok (.aload_n 2, 1) := by decide +kernel
theorem dL_law_275 : decode cL_law 275 = .ok (.aload_n 0, 1) := by decide +kernel
theorem dL_law_276 : decode cL_law 276 = .ok (.iload 4, 2) := by decide +kernel
theorem dL_law_278 : decode cL_law 278 = .ok (.iconst 1, 1) := by decide +kernel
theorem dL_law_279 : decode cL_law 279 = .ok (.iadd, 1) := by decide +kernel
theorem dL_law_280 : decode cL_law 280 = .ok (.iaload, 1) := by decide +kernel
theorem dL_law_281 : decode cL_law 281 = .ok (.aload_n 0, 1) := by decide +kernel
theorem dL_law_282 : decode cL_law 282 = .ok (.iload 4, 2) := by decide +kernel
theorem dL_law_284 : decode cL_law 284 = .ok (.iconst 2, 1) := by decide +kernel
theorem dL_law_285 : decode cL_law 285 = .ok (.iadd, 1) := by decide +kernel
theorem dL_law_286 : decode cL_law 286 = .ok (.iaload, 1) := by decide +kernel
theorem dL_law_287 : decode cL_law 287 = .ok (.aload_n 0, 1) := by decide +kernel
theorem dL_law_288 : decode cL_law 288 = .ok (.iload 4, 2) := by decide +kernel
theorem dL_law_290 : decode cL_law 290 = .ok (.iconst 3, 1) := by decide +kernel
theorem dL_law_291 : decode cL_law 291 = .ok (.iadd, 1) := by decide +kernel
theorem dL_law_292 : decode cL_law 292 = .ok (.iaload, 1) := by decide +kernel
theorem dL_law_293 : decode cL_law 293 = .ok (.aload_n 0, 1) := by decide +kernel
theorem dL_law_294 : decode cL_law 294 = .ok (.iload 4, 2) := by decide +kernel
theorem dL_law_296 : decode cL_law 296 = .ok (.iconst 4, 1) := by decide +kernel
theorem dL_law_297 : decode cL_law 297 = .ok (.iadd, 1) := by decide +kernel
theorem dL_law_298 : decode cL_law 298 = .ok (.iaload, 1) := by decide +kernel
theorem dL_law_299 : decode cL_law 299 = .ok (.aload_n 0, 1) := by decide +kernel
theorem dL_law_300 : decode cL_law 300 = .ok (.iload 4, 2) := by decide +kernel
theorem dL_law_302 : decode cL_law 302 = .ok (.iconst 5, 1) := by decide +kernel
theorem dL_law_303 : decode cL_law 303 = .ok (.iadd, 1) := by decide +kernel
theorem dL_law_304 : decode cL_law 304 = .ok (.iaload, 1) := by decide +kernel
theorem dL_law_305 : decode cL_law 305 = .ok (.invokevirtual 23, 3) := by decide +kernel
theorem dL_law_308 : decode cL_law 308 = .ok (.if_icmp .eq 1163, 3) := by decide +kernel
theorem dL_law_311 : decode cL_law 311 = .ok (.iconst 0, 1) := by decide +kernel
theorem dL_law_312 : decode cL_law 312 = .ok (.ireturn, 1) := by decide +kernel
theorem dL_law_313 : decode cL_law 313 = .ok (.aload_n 1, 1) := by decide +kernel
theorem dL_law_314 : decode cL_law 314 = .ok (.aload_n 0, 1) := by decide +kernel
theorem dL_law_315 : decode cL_law 315 = .ok (.iload 4, 2) := by decide +kernel
theorem dL_law_317 : decode cL_law 317 = .ok (.iconst 1, 1) := by decide +kernel
theorem dL_law_318 : decode cL_law 318 = .ok (.iadd, 1) := by decide +kernel
theorem dL_law_319 : decode cL_law 319 = .ok (.iaload, 1) := by decide +kernel
theorem dL_law_320 : decode cL_law 320 = .ok (.invokevirtual 24, 3) := by decide +kernel
theorem dL_law_323 : decode cL_law 323 = .ok (.aload_n 2, 1) := by decide +kernel
theorem dL_law_324 : decode cL_law 324 = .ok (.aload_n 0, 1) := by decide +kernel
theorem dL_law_325 : decode cL_law 325 = .ok (.iload 4, 2) := by decide +kernel
theorem dL_law_327 : decode cL_law 327 = .ok (.iconst 1, 1) := by decide +kernel
theorem dL_law_328 : decode cL_law 328 = .ok (.iadd, 1) := by decide +kernel
theorem dL_law_329 : decode cL_law 329 = .ok (.iaload, 1) := by decide +kernel
theorem dL_law_330 : decode cL_law 330 = .ok (.invokevirtual 28, 3) := by decide +kernel
theorem dL_law_333 : decode cL_law 333 = .ok (.if_icmp .eq 1138, 3) := by decide +kernel
theorem dL_law_336 : decode cL_law 336 = .ok (.iconst 0, 1) := by decide +kernel
theorem dL_law_337 : decode cL_law 337 = .ok (.ireturn, 1) := by decide +kernel
theorem dL_law_338 : decode cL_law 338 = .ok (.aload_n 1, 1) := by decide +kernel
theorem dL_law_339 : decode cL_law 339 = .ok (.invokevirtual 29, 3) := by decide +kernel
theorem dL_law_342 : decode cL_law 342 = .ok (.aload_n 2, 1) := by decide +kernel
theorem dL_law_343 : decode cL_law 343 = .ok (.invokevirtual 33, 3) := by decide +kernel
theorem dL_law_346 : decode cL_law 346 = .ok (.if_icmp .eq 1125, 3) := by decide +kernel
theorem dL_law_349 : decode cL_law 349 = .ok (.iconst 0, 1) := by decide +kernel
theorem dL_law_350 : decode cL_law 350 = .ok (.ireturn, 1) := by decide +kernel
theorem dL_law_351 : decode cL_law 351 = .ok (.aload_n 1, 1) := by decide +kernel
theorem dL_law_352 : decode cL_law 352 = .ok (.invokevirtual 34, 3) := by decide +kernel
theorem dL_law_355 : decode cL_law 355 = .ok (.aload_n 2, 1) := by decide +kernel
theorem dL_law_356 : decode cL_law 356 = .ok (.invokevirtual 37, 3) := by decide +kernel
theorem dL_law_359 : decode cL_law 359 = .ok (.if_icmp .eq 1112, 3) := by decide +kernel
theorem dL_law_362 : decode cL_law 362 = .ok (.iconst 0, 1) := by decide +kernel
theorem dL_law_363 : decode cL_law 363 = .ok (.ireturn, 1) := by decide +kernel
theorem dL_law_364 : decode cL_law 364 = .ok (.aload_n 1, 1) := by decide +kernel
theorem dL_law_365 : decode cL_law 365 = .ok (.aload_n 0, 1) := by decide +kernel
theorem dL_law_366 : decode cL_law 366 = .ok (.iload 4, 2) := by decide +kernel
theorem dL_law_368 : decode cL_law 368 = .ok (.iconst 1, 1) := by decide +kernel
theorem dL_law_369 : decode cL_law 369 = .ok (.iadd, 1) := by decide +kernel
theorem dL_law_370 : decode cL_law 370 = .ok (.iaload, 1) := by decide +kernel
theorem dL_law_371 : decode cL_law 371 = .ok (.aload_n 0, 1) := by decide +kernel
theorem dL_law_372 : decode cL_law 372 = .ok (.iload 4, 2) := by decide +kernel
theorem dL_law_374 : decode cL_law 374 = .ok (.iconst 2, 1) := by decide +kernel
theorem dL_law_375 : decode cL_law 375 = .ok (.iadd, 1) := by decide +kernel
theorem dL_law_376 : decode cL_law 376 = .ok (.iaload, 1) := by decide +kernel
theorem dL_law_377 : decode cL_law 377 = .ok (.aload_n 3, 1) := by decide +kernel
theorem dL_law_378 : decode cL_law 378 = .ok (.invokestatic 38, 3) := by decide +kernel
theorem dL_law_381 : decode cL_law 381 = .ok (.istore 5, 2) := by decide +kernel
theorem dL_law_383 : decode cL_law 383 = .ok (.aload_n 2, 1) := by decide +kernel
theorem dL_law_384 : decode cL_law 384 = .ok (.aload_n 0, 1) := by decide +kernel
theorem dL_law_385 : decode cL_law 385 = .ok (.iload 4, 2) := by decide +kernel
theorem dL_law_387 : decode cL_law 387 = .ok (.iconst 1, 1) := by decide +kernel
theorem dL_law_388 : decode cL_law 388 = .ok (.iadd, 1) := by decide +kernel
theorem dL_law_389 : decode cL_law 389 = .ok (.iaload, 1) := by decide +kernel
theorem dL_law_390 : decode cL_law 390 = .ok (.aload_n 0, 1) := by decide +kernel
theorem dL_law_391 : decode cL_law 391 = .ok (.iload 4, 2) := by decide +kernel
theorem dL_law_393 : decode cL_law 393 = .ok (.iconst 2, 1) := by decide +kernel
theorem dL_law_394 : decode cL_law 394 = .ok (.iadd, 1) := by decide +kernel
theorem dL_law_395 : decode cL_law 395 = .ok (.iaload, 1) := by decide +kernel
theorem dL_law_396 : decode cL_law 396 = .ok (.invokevirtual 43, 3) := by decide +kernel
theorem dL_law_399 : decode cL_law 399 = .ok (.istore 6, 2) := by decide +kernel
theorem dL_law_401 : decode cL_law 401 = .ok (.aload_n 2, 1) := by decide +kernel
theorem dL_law_402 : decode cL_law 402 = .ok (.invokevirtual 44, 3) := by decide +kernel
theorem dL_law_405 : decode cL_law 405 = .ok (.iload 5, 2) := by decide +kernel
theorem dL_law_407 : decode cL_law 407 = .ok (.if_icmp .eq 5, 3) := by decide +kernel
theorem dL_law_410 : decode cL_law 410 = .ok (.iconst 0, 1) := by decide +kernel
theorem dL_law_411 : decode cL_law 411 = .ok (.ireturn, 1) := by decide +kernel
theorem dL_law_412 : decode cL_law 412 = .ok (.iload 5, 2) := by decide +kernel
theorem dL_law_414 : decode cL_law 414 = .ok (.ifCond .ne 15, 3) := by decide +kernel
theorem dL_law_417 : decode cL_law 417 = .ok (.aload_n 3, 1) := by decide +kernel
theorem dL_law_418 : decode cL_law 418 = .ok (.iconst 0, 1) := by decide +kernel
theorem dL_law_419 : decode cL_law 419 = .ok (.laload, 1) := by decide +kernel
theorem dL_law_420 : decode cL_law 420 = .ok (.iload 6, 2) := by decide +kernel
theorem dL_law_422 : decode cL_law 422 = .ok (.i2l, 1) := by decide +kernel
theorem dL_law_423 : decode cL_law 423 = .ok (.lcmp, 1) := by decide +kernel
theorem dL_law_424 : decode cL_law 424 = .ok (.ifCond .eq 5, 3) := by decide +kernel
theorem dL_law_427 : decode cL_law 427 = .ok (.iconst 0, 1) := by decide +kernel
theorem dL_law_428 : decode cL_law 428 = .ok (.ireturn, 1) := by decide +kernel
theorem dL_law_429 : decode cL_law 429 = .ok (.goto 1042, 3) := by decide +kernel
theorem dL_law_432 : decode cL_law 432 = .ok (.aload_n 1, 1) := by decide +kernel
theorem dL_law_433 : decode cL_law 433 = .ok (.aload_n 0, 1) := by decide +kernel
theorem dL_law_434 : decode cL_law 434 = .ok (.iload 4, 2) := by decide +kernel
theorem dL_law_436 : decode cL_law 436 = .ok (.iconst 1, 1) := by decide +kernel
theorem dL_law_437 : decode cL_law 437 = .ok (.iadd, 1) := by decide +kernel
theorem dL_law_438 : decode cL_law 438 = .ok (.iaload, 1) := by decide +kernel
theorem dL_law_439 : decode cL_law 439 = .ok (.aload_n 0, 1) := by decide +kernel
theorem dL_law_440 : decode cL_law 440 = .ok (.iload 4, 2) := by decide +kernel
theorem dL_law_442 : decode cL_law 442 = .ok (.iconst 2, 1) := by decide +kernel
theorem dL_law_443 : decode cL_law 443 = .ok (.iadd, 1) := by decide +kernel
theorem dL_law_444 : decode cL_law 444 = .ok (.iaload, 1) := by decide +kernel
theorem dL_law_445 : decode cL_law 445 = .ok (.invokevirtual 47, 3) := by decide +kernel
theorem dL_law_448 : decode cL_law 448 = .ok (.aload_n 2, 1) := by decide +kernel
theorem dL_law_449 : decode cL_law 449 = .ok (.aload_n 0, 1) := by decide +kernel
theorem dL_law_450 : decode cL_law 450 = .ok (.iload 4, 2) := by decide +kernel
theorem dL_law_452 : decode cL_law 452 = .ok (.iconst 1, 1) := by decide +kernel
theorem dL_law_453 : decode cL_law 453 = .ok (.iadd, 1) := by decide +kernel
theorem dL_law_454 : decode cL_law 454 = .ok (.iaload, 1) := by decide +kernel
theorem dL_law_455 : decode cL_law 455 = .ok (.aload_n 0, 1) := by decide +kernel
theorem dL_law_456 : decode cL_law 456 = .ok (.iload 4, 2) := by decide +kernel
theorem dL_law_458 : decode cL_law 458 = .ok (.iconst 2, 1) := by decide +kernel
theorem dL_law_459 : decode cL_law 459 = .ok (.iadd, 1) := by decide +kernel
theorem dL_law_460 : decode cL_law 460 = .ok (.iaload, 1) := by decide +kernel
theorem dL_law_461 : decode cL_law 461 = .ok (.invokevirtual 50, 3) := by decide +kernel
theorem dL_law_464 : decode cL_law 464 = .ok (.if_icmp .eq 1007, 3) := by decide +kernel
theorem dL_law_467 : decode cL_law 467 = .ok (.iconst 0, 1) := by decide +kernel
theorem dL_law_468 : decode cL_law 468 = .ok (.ireturn, 1) := by decide +kernel
theorem dL_law_469 : decode cL_law 469 = .ok (.aload_n 1, 1) := by decide +kernel
theorem dL_law_470 : decode cL_law 470 = .ok (.aload_n 0, 1) := by decide +kernel
theorem dL_law_471 : decode cL_law 471 = .ok (.iload 4, 2) := by decide +kernel
theorem dL_law_473 : decode cL_law 473 = .ok (.iconst 1, 1) := by decide +kernel
theorem dL_law_474 : decode cL_law 474 = .ok (.iadd, 1) := by decide +kernel
theorem dL_law_475 : decode cL_law 475 = .ok (.iaload, 1) := by decide +kernel
theorem dL_law_476 : decode cL_law 476 = .ok (.aload_n 0, 1) := by decide +kernel
theorem dL_law_477 : decode cL_law 477 = .ok (.iload 4, 2) := by decide +kernel
theorem dL_law_479 : decode cL_law 479 = .ok (.iconst 2, 1) := by decide +kernel
theorem dL_law_480 : decode cL_law 480 = .ok (.iadd, 1) := by decide +kernel
theorem dL_law_481 : decode cL_law 481 = .ok (.iaload, 1) := by decide +kernel
theorem dL_law_482 : decode cL_law 482 = .ok (.invokevirtual 51, 3) := by decide +kernel
theorem dL_law_485 : decode cL_law 485 = .ok (.aload_n 2, 1) := by decide +kernel
theorem dL_law_486 : decode cL_law 486 = .ok (.aload_n 0, 1) := by decide +kernel
theorem dL_law_487 : decode cL_law 487 = .ok (.iload 4, 2) := by decide +kernel
theorem dL_law_489 : decode cL_law 489 = .ok (.iconst 1, 1) := by decide +kernel
theorem dL_law_490 : decode cL_law 490 = .ok (.iadd, 1) := by decide +kernel
theorem dL_law_491 : decode cL_law 491 = .ok (.iaload, 1) := by decide +kernel
theorem dL_law_492 : decode cL_law 492 = .ok (.aload_n 0, 1) := by decide +kernel
theorem dL_law_493 : decode cL_law 493 = .ok (.iload 4, 2) := by decide +kernel
theorem dL_law_495 : decode cL_law 495 = .ok (.iconst 2, 1) := by decide +kernel
theorem dL_law_496 : decode cL_law 496 = .ok (.iadd, 1) := by decide +kernel
theorem dL_law_497 : decode cL_law 497 = .ok (.iaload, 1) := by decide +kernel
theorem dL_law_498 : decode cL_law 498 = .ok (.invokevirtual 54, 3) := by decide +kernel
theorem dL_law_501 : decode cL_law 501 = .ok (.if_icmp .eq 970, 3) := by decide +kernel
theorem dL_law_504 : decode cL_law 504 = .ok (.iconst 0, 1) := by decide +kernel
theorem dL_law_505 : decode cL_law 505 = .ok (.ireturn, 1) := by decide +kernel
theorem dL_law_506 : decode cL_law 506 = .ok (.aload_n 1, 1) := by decide +kernel
theorem dL_law_507 : decode cL_law 507 = .ok (.aload_n 0, 1) := by decide +kernel
theorem dL_law_508 : decode cL_law 508 = .ok (.iload 4, 2) := by decide +kernel
theorem dL_law_510 : decode cL_law 510 = .ok (.iconst 1, 1) := by decide +kernel
theorem dL_law_511 : decode cL_law 511 = .ok (.iadd, 1) := by decide +kernel
theorem dL_law_512 : decode cL_law 512 = .ok (.iaload, 1) := by decide +kernel
theorem dL_law_513 : decode cL_law 513 = .ok (.aload_n 0, 1) := by decide +kernel
theorem dL_law_514 : decode cL_law 514 = .ok (.iload 4, 2) := by decide +kernel
theorem dL_law_516 : decode cL_law 516 = .ok (.iconst 2, 1) := by decide +kernel
theorem dL_law_517 : decode cL_law 517 = .ok (.iadd, 1) := by decide +kernel
theorem dL_law_518 : decode cL_law 518 = .ok (.iaload, 1) := by decide +kernel
theorem dL_law_519 : decode cL_law 519 = .ok (.invokevirtual 55, 3) := by decide +kernel
theorem dL_law_522 : decode cL_law 522 = .ok (.aload_n 2, 1) := by decide +kernel
theorem dL_law_523 : decode cL_law 523 = .ok (.aload_n 0, 1) := by decide +kernel
theorem dL_law_524 : decode cL_law 524 = .ok (.iload 4, 2) := by decide +kernel
theorem dL_law_526 : decode cL_law 526 = .ok (.iconst 1, 1) := by decide +kernel
theorem dL_law_527 : decode cL_law 527 = .ok (.iadd, 1) := by decide +kernel
theorem dL_law_528 : decode cL_law 528 = .ok (.iaload, 1) := by decide +kernel
theorem dL_law_529 : decode cL_law 529 = .ok (.aload_n 0, 1) := by decide +kernel
theorem dL_law_530 : decode cL_law 530 = .ok (.iload 4, 2) := by decide +kernel
theorem dL_law_532 : decode cL_law 532 = .ok (.iconst 2, 1) := by decide +kernel
theorem dL_law_533 : decode cL_law 533 = .ok (.iadd, 1) := by decide +kernel
theorem dL_law_534 : decode cL_law 534 = .ok (.iaload, 1) := by decide +kernel
theorem dL_law_535 : decode cL_law 535 = .ok (.invokevirtual 58, 3) := by decide +kernel
theorem dL_law_538 : decode cL_law 538 = .ok (.if_icmp .eq 933, 3) := by decide +kernel
theorem dL_law_541 : decode cL_law 541 = .ok (.iconst 0, 1) := by decide +kernel
theorem dL_law_542 : decode cL_law 542 = .ok (.ireturn, 1) := by decide +kernel
theorem dL_law_543 : decode cL_law 543 = .ok (.aload_n 1, 1) := by decide +kernel
theorem dL_law_544 : decode cL_law 544 = .ok (.aload_n 0, 1) := by decide +kernel
theorem dL_law_545 : decode cL_law 545 = .ok (.iload 4, 2) := by decide +kernel
theorem dL_law_547 : decode cL_law 547 = .ok (.iconst 1, 1) := by decide +kernel
theorem dL_law_548 : decode cL_law 548 = .ok (.iadd, 1) := by decide +kernel
theorem dL_law_549 : decode cL_law 549 = .ok (.iaload, 1) := by decide +kernel
theorem dL_law_550 : decode cL_law 550 = .ok (.invokevirtual 59, 3) := by decide +kernel
theorem dL_law_553 : decode cL_law 553 = .ok (.aload_n 2, 1) := by decide +kernel
theorem dL_law_554 : decode cL_law 554 = .ok (.aload_n 0, 1) := by decide +kernel
theorem dL_law_555 : decode cL_law 555 = .ok (.iload 4, 2) := by decide +kernel
theorem dL_law_557 : decode cL_law 557 = .ok (.iconst 1, 1) := by decide +kernel
theorem dL_law_558 : decode cL_law 558 = .ok (.iadd, 1) := by decide +kernel
theorem dL_law_559 : decode cL_law 559 = .ok (.iaload, 1) := by decide +kernel
theorem dL_law_560 : decode cL_law 560 = .ok (.invokevirtual 63, 3) := by decide +kernel
theorem dL_law_563 : decode cL_law 563 = .ok (.if_icmp .eq 908, 3) := by decide +kernel
theorem dL_law_566 : decode cL_law 566 = .ok (.iconst 0, 1) := by decide +kernel
theorem dL_law_567 : decode cL_law 567 = .ok (.ireturn, 1) := by decide +kernel
theorem dL_law_568 : decode cL_law 568 = .ok (.aload_n 1, 1) := by decide +kernel
theorem dL_law_569 : decode cL_law 569 = .ok (.aload_n 0, 1) := by decide +kernel
theorem dL_law_570 : decode cL_law 570 = .ok (.iload 4, 2) := by decide +kernel
theorem dL_law_572 : decode cL_law 572 = .ok (.iconst 1, 1) := by decide +kernel
theorem dL_law_573 : decode cL_law 573 = .ok (.iadd, 1) := by decide +kernel
theorem dL_law_574 : decode cL_law 574 = .ok (.iaload, 1) := by decide +kernel
theorem dL_law_575 : decode cL_law 575 = .ok (.invokevirtual 64, 3) := by decide +kernel
theorem dL_law_578 : decode cL_law 578 = .ok (.aload_n 2, 1) := by decide +kernel
theorem dL_law_579 : decode cL_law 579 = .ok (.aload_n 0, 1) := by decide +kernel
theorem dL_law_580 : decode cL_law 580 = .ok (.iload 4, 2) := by decide +kernel
theorem dL_law_582 : decode cL_law 582 = .ok (.iconst 1, 1) := by decide +kernel
theorem dL_law_583 : decode cL_law 583 = .ok (.iadd, 1) := by decide +kernel
theorem dL_law_584 : decode cL_law 584 = .ok (.iaload, 1) := by decide +kernel
theorem dL_law_585 : decode cL_law 585 = .ok (.invokevirtual 67, 3) := by decide +kernel
theorem dL_law_588 : decode cL_law 588 = .ok (.if_icmp .eq 883, 3) := by decide +kernel
theorem dL_law_591 : decode cL_law 591 = .ok (.iconst 0, 1) := by decide +kernel
theorem dL_law_592 : decode cL_law 592 = .ok (.ireturn, 1) := by decide +kernel
theorem dL_law_593 : decode cL_law 593 = .ok (.aload_n 1, 1) := by decide +kernel
theorem dL_law_594 : decode cL_law 594 = .ok (.aload_n 0, 1) := by decide +kernel
theorem dL_law_595 : decode cL_law 595 = .ok (.iload 4, 2) := by decide +kernel
theorem dL_law_597 : decode cL_law 597 = .ok (.iconst 1, 1) := by decide +kernel
theorem dL_law_598 : decode cL_law 598 = .ok (.iadd, 1) := by decide +kernel
theorem dL_law_599 : decode cL_law 599 = .ok (.iaload, 1) := by decide +kernel
theorem dL_law_600 : decode cL_law 600 = .ok (.aload_n 0, 1) := by decide +kernel
theorem dL_law_601 : decode cL_law 601 = .ok (.iload 4, 2) := by decide +kernel
theorem dL_law_603 : decode cL_law 603 = .ok (.iconst 2, 1) := by decide +kernel
theorem dL_law_604 : decode cL_law 604 = .ok (.iadd, 1) := by decide +kernel
theorem dL_law_605 : decode cL_law 605 = .ok (.iaload, 1) := by decide +kernel
theorem dL_law_606 : decode cL_law 606 = .ok (.aload_n 0, 1) := by decide +kernel
theorem dL_law_607 : decode cL_law 607 = .ok (.iload 4, 2) := by decide +kernel
theorem dL_law_609 : decode cL_law 609 = .ok (.iconst 3, 1) := by decide +kernel
theorem dL_law_610 : decode cL_law 610 = .ok (.iadd, 1) := by decide +kernel
theorem dL_law_611 : decode cL_law 611 = .ok (.iaload, 1) := by decide +kernel
theorem dL_law_612 : decode cL_law 612 = .ok (.invokevirtual 68, 3) := by decide +kernel
theorem dL_law_615 : decode cL_law 615 = .ok (.aload_n 2, 1) := by decide +kernel
theorem dL_law_616 : decode cL_law 616 = .ok (.aload_n 0, 1) := by decide +kernel
theorem dL_law_617 : decode cL_law 617 = .ok (.iload 4, 2) := by decide +kernel
theorem dL_law_619 : decode cL_law 619 = .ok (.iconst 1, 1) := by decide +kernel
theorem dL_law_620 : decode cL_law 620 = .ok (.iadd, 1) := by decide +kernel
theorem dL_law_621 : decode cL_law 621 = .ok (.iaload, 1) := by decide +kernel
theorem dL_law_622 : decode cL_law 622 = .ok (.aload_n 0, 1) := by decide +kernel
theorem dL_law_623 : decode cL_law 623 = .ok (.iload 4, 2) := by decide +kernel
theorem dL_law_625 : decode cL_law 625 = .ok (.iconst 2, 1) := by decide +kernel
theorem dL_law_626 : decode cL_law 626 = .ok (.iadd, 1) := by decide +kernel
theorem dL_law_627 : decode cL_law 627 = .ok (.iaload, 1) := by decide +kernel
theorem dL_law_628 : decode cL_law 628 = .ok (.aload_n 0, 1) := by decide +kernel
theorem dL_law_629 : decode cL_law 629 = .ok (.iload 4, 2) := by decide +kernel
theorem dL_law_631 : decode cL_law 631 = .ok (.iconst 3, 1) := by decide +kernel
theorem dL_law_632 : decode cL_law 632 = .ok (.iadd, 1) := by decide +kernel
theorem dL_law_633 : decode cL_law 633 = .ok (.iaload, 1) := by decide +kernel
theorem dL_law_634 : decode cL_law 634 = .ok (.invokevirtual 72, 3) := by decide +kernel
theorem dL_law_637 : decode cL_law 637 = .ok (.if_icmp .eq 834, 3) := by decide +kernel
theorem dL_law_640 : decode cL_law 640 = .ok (.iconst 0, 1) := by decide +kernel
theorem dL_law_641 : decode cL_law 641 = .ok (.ireturn, 1) := by decide +kernel
theorem dL_law_642 : decode cL_law 642 = .ok (.aload_n 1, 1) := by decide +kernel
theorem dL_law_643 : decode cL_law 643 = .ok (.aload_n 0, 1) := by decide +kernel
theorem dL_law_644 : decode cL_law 644 = .ok (.iload 4, 2) := by decide +kernel
theorem dL_law_646 : decode cL_law 646 = .ok (.iconst 1, 1) := by decide +kernel
theorem dL_law_647 : decode cL_law 647 = .ok (.iadd, 1) := by decide +kernel
theorem dL_law_648 : decode cL_law 648 = .ok (.iaload, 1) := by decide +kernel
theorem dL_law_649 : decode cL_law 649 = .ok (.aload_n 0, 1) := by decide +kernel
theorem dL_law_650 : decode cL_law 650 = .ok (.iload 4, 2) := by decide +kernel
theorem dL_law_652 : decode cL_law 652 = .ok (.iconst 2, 1) := by decide +kernel
theorem dL_law_653 : decode cL_law 653 = .ok (.iadd, 1) := by decide +kernel
theorem dL_law_654 : decode cL_law 654 = .ok (.iaload, 1) := by decide +kernel
theorem dL_law_655 : decode cL_law 655 = .ok (.aload_n 0, 1) := by decide +kernel
theorem dL_law_656 : decode cL_law 656 = .ok (.iload 4, 2) := by decide +kernel
theorem dL_law_658 : decode cL_law 658 = .ok (.iconst 3, 1) := by decide +kernel
theorem dL_law_659 : decode cL_law 659 = .ok (.iadd, 1) := by decide +kernel
theorem dL_law_660 : decode cL_law 660 = .ok (.iaload, 1) := by decide +kernel
theorem dL_law_661 : decode cL_law 661 = .ok (.invokevirtual 73, 3) := by decide +kernel
theorem dL_law_664 : decode cL_law 664 = .ok (.aload_n 2, 1) := by decide +kernel
theorem dL_law_665 : decode cL_law 665 = .ok (.aload_n 0, 1) := by decide +kernel
theorem dL_law_666 : decode cL_law 666 = .ok (.iload 4, 2) := by decide +kernel
theorem dL_law_668 : decode cL_law 668 = .ok (.iconst 1, 1) := by decide +kernel
theorem dL_law_669 : decode cL_law 669 = .ok (.iadd, 1) := by decide +kernel
theorem dL_law_670 : decode cL_law 670 = .ok (.iaload, 1) := by decide +kernel
theorem dL_law_671 : decode cL_law 671 = .ok (.aload_n 0, 1) := by decide +kernel
theorem dL_law_672 : decode cL_law 672 = .ok (.iload 4, 2) := by decide +kernel
theorem dL_law_674 : decode cL_law 674 = .ok (.iconst 2, 1) := by decide +kernel
theorem dL_law_675 : decode cL_law 675 = .ok (.iadd, 1) := by decide +kernel
theorem dL_law_676 : decode cL_law 676 = .ok (.iaload, 1) := by decide +kernel
theorem dL_law_677 : decode cL_law 677 = .ok (.aload_n 0, 1) := by decide +kernel
theorem dL_law_678 : decode cL_law 678 = .ok (.iload 4, 2) := by decide +kernel
theorem dL_law_680 : decode cL_law 680 = .ok (.iconst 3, 1) := by decide +kernel
theorem dL_law_681 : decode cL_law 681 = .ok (.iadd, 1) := by decide +kernel
theorem dL_law_682 : decode cL_law 682 = .ok (.iaload, 1) := by decide +kernel
theorem dL_law_683 : decode cL_law 683 = .ok (.invokevirtual 76, 3) := by decide +kernel
theorem dL_law_686 : decode cL_law 686 = .ok (.if_icmp .eq 785, 3) := by decide +kernel
theorem dL_law_689 : decode cL_law 689 = .ok (.iconst 0, 1) := by decide +kernel
theorem dL_law_690 : decode cL_law 690 = .ok (.ireturn, 1) := by decide +kernel
theorem dL_law_691 : decode cL_law 691 = .ok (.aload_n 1, 1) := by decide +kernel
theorem dL_law_692 : decode cL_law 692 = .ok (.aload_n 0, 1) := by decide +kernel
theorem dL_law_693 : decode cL_law 693 = .ok (.iload 4, 2) := by decide +kernel
theorem dL_law_695 : decode cL_law 695 = .ok (.iconst 1, 1) := by decide +kernel
theorem dL_law_696 : decode cL_law 696 = .ok (.iadd, 1) := by decide +kernel
theorem dL_law_697 : decode cL_law 697 = .ok (.iaload, 1) := by decide +kernel
theorem dL_law_698 : decode cL_law 698 = .ok (.invokevirtual 77, 3) := by decide +kernel
theorem dL_law_701 : decode cL_law 701 = .ok (.aload_n 2, 1) := by decide +kernel
theorem dL_law_702 : decode cL_law 702 = .ok (.aload_n 0, 1) := by decide +kernel
theorem dL_law_703 : decode cL_law 703 = .ok (.iload 4, 2) := by decide +kernel
theorem dL_law_705 : decode cL_law 705 = .ok (.iconst 1, 1) := by decide +kernel
theorem dL_law_706 : decode cL_law 706 = .ok (.iadd, 1) := by decide +kernel
theorem dL_law_707 : decode cL_law 707 = .ok (.iaload, 1) := by decide +kernel
theorem dL_law_708 : decode cL_law 708 = .ok (.invokevirtual 80, 3) := by decide +kernel
theorem dL_law_711 : decode cL_law 711 = .ok (.if_icmp .eq 760, 3) := by decide +kernel
theorem dL_law_714 : decode cL_law 714 = .ok (.iconst 0, 1) := by decide +kernel
theorem dL_law_715 : decode cL_law 715 = .ok (.ireturn, 1) := by decide +kernel
theorem dL_law_716 : decode cL_law 716 = .ok (.aload_n 1, 1) := by decide +kernel
theorem dL_law_717 : decode cL_law 717 = .ok (.invokevirtual 81, 3) := by decide +kernel
theorem dL_law_720 : decode cL_law 720 = .ok (.aload_n 2, 1) := by decide +kernel
theorem dL_law_721 : decode cL_law 721 = .ok (.invokevirtual 84, 3) := by decide +kernel
theorem dL_law_724 : decode cL_law 724 = .ok (.if_icmp .eq 747, 3) := by decide +kernel
theorem dL_law_727 : decode cL_law 727 = .ok (.iconst 0, 1) := by decide +kernel
theorem dL_law_728 : decode cL_law 728 = .ok (.ireturn, 1) := by decide +kernel
theorem dL_law_729 : decode cL_law 729 = .ok (.aload_n 1, 1) := by decide +kernel
theorem dL_law_730 : decode cL_law 730 = .ok (.aload_n 0, 1) := by decide +kernel
theorem dL_law_731 : decode cL_law 731 = .ok (.iload 4, 2) := by decide +kernel
theorem dL_law_733 : decode cL_law 733 = .ok (.iconst 1, 1) := by decide +kernel
theorem dL_law_734 : decode cL_law 734 = .ok (.iadd, 1) := by decide +kernel
theorem dL_law_735 : decode cL_law 735 = .ok (.iaload, 1) := by decide +kernel
theorem dL_law_736 : decode cL_law 736 = .ok (.invokevirtual 85, 3) := by decide +kernel
theorem dL_law_739 : decode cL_law 739 = .ok (.aload_n 2, 1) := by decide +kernel
theorem dL_law_740 : decode cL_law 740 = .ok (.aload_n 0, 1) := by decide +kernel
theorem dL_law_741 : decode cL_law 741 = .ok (.iload 4, 2) := by decide +kernel
theorem dL_law_743 : decode cL_law 743 = .ok (.iconst 1, 1) := by decide +kernel
theorem dL_law_744 : decode cL_law 744 = .ok (.iadd, 1) := by decide +kernel
theorem dL_law_745 : decode cL_law 745 = .ok (.iaload, 1) := by decide +kernel
theorem dL_law_746 : decode cL_law 746 = .ok (.invokevirtual 88, 3) := by decide +kernel
theorem dL_law_749 : decode cL_law 749 = .ok (.if_icmp .eq 722, 3) := by decide +kernel
theorem dL_law_752 : decode cL_law 752 = .ok (.iconst 0, 1) := by decide +kernel
theorem dL_law_753 : decode cL_law 753 = .ok (.ireturn, 1) := by decide +kernel
theorem dL_law_754 : decode cL_law 754 = .ok (.aload_n 1, 1) := by decide +kernel
theorem dL_law_755 : decode cL_law 755 = .ok (.aload_n 0, 1) := by decide +kernel
theorem dL_law_756 : decode cL_law 756 = .ok (.iload 4, 2) := by decide +kernel
theorem dL_law_758 : decode cL_law 758 = .ok (.iconst 1, 1) := by decide +kernel
theorem dL_law_759 : decode cL_law 759 = .ok (.iadd, 1) := by decide +kernel
theorem dL_law_760 : decode cL_law 760 = .ok (.iaload, 1) := by decide +kernel
theorem dL_law_761 : decode cL_law 761 = .ok (.invokevirtual 89, 3) := by decide +kernel
theorem dL_law_764 : decode cL_law 764 = .ok (.aload_n 2, 1) := by decide +kernel
theorem dL_law_765 : decode cL_law 765 = .ok (.aload_n 0, 1) := by decide +kernel
theorem dL_law_766 : decode cL_law 766 = .ok (.iload 4, 2) := by decide +kernel
theorem dL_law_768 : decode cL_law 768 = .ok (.iconst 1, 1) := by decide +kernel
theorem dL_law_769 : decode cL_law 769 = .ok (.iadd, 1) := by decide +kernel
theorem dL_law_770 : decode cL_law 770 = .ok (.iaload, 1) := by decide +kernel
theorem dL_law_771 : decode cL_law 771 = .ok (.invokevirtual 92, 3) := by decide +kernel
theorem dL_law_774 : decode cL_law 774 = .ok (.if_icmp .eq 697, 3) := by decide +kernel
theorem dL_law_777 : decode cL_law 777 = .ok (.iconst 0, 1) := by decide +kernel
theorem dL_law_778 : decode cL_law 778 = .ok (.ireturn, 1) := by decide +kernel
theorem dL_law_779 : decode cL_law 779 = .ok (.aload_n 1, 1) := by decide +kernel
theorem dL_law_780 : decode cL_law 780 = .ok (.aload_n 0, 1) := by decide +kernel
theorem dL_law_781 : decode cL_law 781 = .ok (.iload 4, 2) := by decide +kernel
theorem dL_law_783 : decode cL_law 783 = .ok (.iconst 1, 1) := by decide +kernel
theorem dL_law_784 : decode cL_law 784 = .ok (.iadd, 1) := by decide +kernel
theorem dL_law_785 : decode cL_law 785 = .ok (.iaload, 1) := by decide +kernel
theorem dL_law_786 : decode cL_law 786 = .ok (.aload_n 0, 1) := by decide +kernel
theorem dL_law_787 : decode cL_law 787 = .ok (.iload 4, 2) := by decide +kernel
theorem dL_law_789 : decode cL_law 789 = .ok (.iconst 2, 1) := by decide +kernel
theorem dL_law_790 : decode cL_law 790 = .ok (.iadd, 1) := by decide +kernel
theorem dL_law_791 : decode cL_law 791 = .ok (.iaload, 1) := by decide +kernel
theorem dL_law_792 : decode cL_law 792 = .ok (.invokevirtual 93, 3) := by decide +kernel
theorem dL_law_795 : decode cL_law 795 = .ok (.aload_n 2, 1) := by decide +kernel
theorem dL_law_796 : decode cL_law 796 = .ok (.aload_n 0, 1) := by decide +kernel
theorem dL_law_797 : decode cL_law 797 = .ok (.iload 4, 2) := by decide +kernel
theorem dL_law_799 : decode cL_law 799 = .ok (.iconst 1, 1) := by decide +kernel
theorem dL_law_800 : decode cL_law 800 = .ok (.iadd, 1) := by decide +kernel
theorem dL_law_801 : decode cL_law 801 = .ok (.iaload, 1) := by decide +kernel
theorem dL_law_802 : decode cL_law 802 = .ok (.aload_n 0, 1) := by decide +kernel
theorem dL_law_803 : decode cL_law 803 = .ok (.iload 4, 2) := by decide +kernel
theorem dL_law_805 : decode cL_law 805 = .ok (.iconst 2, 1) := by decide +kernel
theorem dL_law_806 : decode cL_law 806 = .ok (.iadd, 1) := by decide +kernel
theorem dL_law_807 : decode cL_law 807 = .ok (.iaload, 1) := by decide +kernel
theorem dL_law_808 : decode cL_law 808 = .ok (.invokevirtual 96, 3) := by decide +kernel
theorem dL_law_811 : decode cL_law 811 = .ok (.if_icmp .eq 660, 3) := by decide +kernel
theorem dL_law_814 : decode cL_law 814 = .ok (.iconst 0, 1) := by decide +kernel
theorem dL_law_815 : decode cL_law 815 = .ok (.ireturn, 1) := by decide +kernel
theorem dL_law_816 : decode cL_law 816 = .ok (.aload_n 1, 1) := by decide +kernel
theorem dL_law_817 : decode cL_law 817 = .ok (.invokevirtual 97, 3) := by decide +kernel
theorem dL_law_820 : decode cL_law 820 = .ok (.aload_n 2, 1) := by decide +kernel
theorem dL_law_821 : decode cL_law 821 = .ok (.invokevirtual 100, 3) := by decide +kernel
theorem dL_law_824 : decode cL_law 824 = .ok (.if_icmp .eq 647, 3) := by decide +kernel
theorem dL_law_827 : decode cL_law 827 = .ok (.iconst 0, 1) := by decide +kernel
theorem dL_law_828 : decode cL_law 828 = .ok (.ireturn, 1) := by decide +kernel
theorem dL_law_829 : decode cL_law 829 = .ok (.aload_n 1, 1) := by decide +kernel
theorem dL_law_830 : decode cL_law 830 = .ok (.aload_n 0, 1) := by decide +kernel
theorem dL_law_831 : decode cL_law 831 = .ok (.iload 4, 2) := by decide +kernel
theorem dL_law_833 : decode cL_law 833 = .ok (.iconst 1, 1) := by decide +kernel
theorem dL_law_834 : decode cL_law 834 = .ok (.iadd, 1) := by decide +kernel
theorem dL_law_835 : decode cL_law 835 = .ok (.iaload, 1) := by decide +kernel
theorem dL_law_836 : decode cL_law 836 = .ok (.invokevirtual 101, 3) := by decide +kernel
theorem dL_law_839 : decode cL_law 839 = .ok (.aload_n 2, 1) := by decide +kernel
theorem dL_law_840 : decode cL_law 840 = .ok (.aload_n 0, 1) := by decide +kernel
theorem dL_law_841 : decode cL_law 841 = .ok (.iload 4, 2) := by decide +kernel
theorem dL_law_843 : decode cL_law 843 = .ok (.iconst 1, 1) := by decide +kernel
theorem dL_law_844 : decode cL_law 844 = .ok (.iadd, 1) := by decide +kernel
theorem dL_law_845 : decode cL_law 845 = .ok (.iaload, 1) := by decide +kernel
theorem dL_law_846 : decode cL_law 846 = .ok (.invokevirtual 104, 3) := by decide +kernel
theorem dL_law_849 : decode cL_law 849 = .ok (.if_icmp .eq 622, 3) := by decide +kernel
theorem dL_law_852 : decode cL_law 852 = .ok (.iconst 0, 1) := by decide +kernel
theorem dL_law_853 : decode cL_law 853 = .ok (.ireturn, 1) := by decide +kernel
theorem dL_law_854 : decode cL_law 854 = .ok (.aload_n 1, 1) := by decide +kernel
theorem dL_law_855 : decode cL_law 855 = .ok (.aload_n 0, 1) := by decide +kernel
theorem dL_law_856 : decode cL_law 856 = .ok (.iload 4, 2) := by decide +kernel
theorem dL_law_858 : decode cL_law 858 = .ok (.iconst 1, 1) := by decide +kernel
theorem dL_law_859 : decode cL_law 859 = .ok (.iadd, 1) := by decide +kernel
theorem dL_law_860 : decode cL_law 860 = .ok (.iaload, 1) := by decide +kernel
theorem dL_law_861 : decode cL_law 861 = .ok (.invokevirtual 105, 3) := by decide +kernel
theorem dL_law_864 : decode cL_law 864 = .ok (.aload_n 2, 1) := by decide +kernel
theorem dL_law_865 : decode cL_law 865 = .ok (.aload_n 0, 1) := by decide +kernel
theorem dL_law_866 : decode cL_law 866 = .ok (.iload 4, 2) := by decide +kernel
theorem dL_law_868 : decode cL_law 868 = .ok (.iconst 1, 1) := by decide +kernel
theorem dL_law_869 : decode cL_law 869 = .ok (.iadd, 1) := by decide +kernel
theorem dL_law_870 : decode cL_law 870 = .ok (.iaload, 1) := by decide +kernel
theorem dL_law_871 : decode cL_law 871 = .ok (.invokevirtual 108, 3) := by decide +kernel
theorem dL_law_874 : decode cL_law 874 = .ok (.if_icmp .eq 597, 3) := by decide +kernel
theorem dL_law_877 : decode cL_law 877 = .ok (.iconst 0, 1) := by decide +kernel
theorem dL_law_878 : decode cL_law 878 = .ok (.ireturn, 1) := by decide +kernel
theorem dL_law_879 : decode cL_law 879 = .ok (.aload_n 1, 1) := by decide +kernel
theorem dL_law_880 : decode cL_law 880 = .ok (.invokevirtual 109, 3) := by decide +kernel
theorem dL_law_883 : decode cL_law 883 = .ok (.aload_n 2, 1) := by decide +kernel
theorem dL_law_884 : decode cL_law 884 = .ok (.invokevirtual 112, 3) := by decide +kernel
theorem dL_law_887 : decode cL_law 887 = .ok (.if_icmp .eq 584, 3) := by decide +kernel
theorem dL_law_890 : decode cL_law 890 = .ok (.iconst 0, 1) := by decide +kernel
theorem dL_law_891 : decode cL_law 891 = .ok (.ireturn, 1) := by decide +kernel
theorem dL_law_892 : decode cL_law 892 = .ok (.aload_n 1, 1) := by decide +kernel
theorem dL_law_893 : decode cL_law 893 = .ok (.aload_n 0, 1) := by decide +kernel
theorem dL_law_894 : decode cL_law 894 = .ok (.iload 4, 2) := by decide +kernel
theorem dL_law_896 : decode cL_law 896 = .ok (.iconst 1, 1) := by decide +kernel
theorem dL_law_897 : decode cL_law 897 = .ok (.iadd, 1) := by decide +kernel
theorem dL_law_898 : decode cL_law 898 = .ok (.iaload, 1) := by decide +kernel
theorem dL_law_899 : decode cL_law 899 = .ok (.invokevirtual 113, 3) := by decide +kernel
theorem dL_law_902 : decode cL_law 902 = .ok (.aload_n 2, 1) := by decide +kernel
theorem dL_law_903 : decode cL_law 903 = .ok (.aload_n 0, 1) := by decide +kernel
theorem dL_law_904 : decode cL_law 904 = .ok (.iload 4, 2) := by decide +kernel
theorem dL_law_906 : decode cL_law 906 = .ok (.iconst 1, 1) := by decide +kernel
theorem dL_law_907 : decode cL_law 907 = .ok (.iadd, 1) := by decide +kernel
theorem dL_law_908 : decode cL_law 908 = .ok (.iaload, 1) := by decide +kernel
theorem dL_law_909 : decode cL_law 909 = .ok (.invokevirtual 116, 3) := by decide +kernel
theorem dL_law_912 : decode cL_law 912 = .ok (.if_icmp .eq 559, 3) := by decide +kernel
theorem dL_law_915 : decode cL_law 915 = .ok (.iconst 0, 1) := by decide +kernel
theorem dL_law_916 : decode cL_law 916 = .ok (.ireturn, 1) := by decide +kernel
theorem dL_law_917 : decode cL_law 917 = .ok (.aload_n 1, 1) := by decide +kernel
theorem dL_law_918 : decode cL_law 918 = .ok (.invokevirtual 117, 3) := by decide +kernel
theorem dL_law_921 : decode cL_law 921 = .ok (.aload_n 2, 1) := by decide +kernel
theorem dL_law_922 : decode cL_law 922 = .ok (.invokevirtual 120, 3) := by decide +kernel
theorem dL_law_925 : decode cL_law 925 = .ok (.if_icmp .eq 546, 3) := by decide +kernel
theorem dL_law_928 : decode cL_law 928 = .ok (.iconst 0, 1) := by decide +kernel
theorem dL_law_929 : decode cL_law 929 = .ok (.ireturn, 1) := by decide +kernel
theorem dL_law_930 : decode cL_law 930 = .ok (.aload_n 1, 1) := by decide +kernel
theorem dL_law_931 : decode cL_law 931 = .ok (.aload_n 0, 1) := by decide +kernel
theorem dL_law_932 : decode cL_law 932 = .ok (.iload 4, 2) := by decide +kernel
theorem dL_law_934 : decode cL_law 934 = .ok (.iconst 1, 1) := by decide +kernel
theorem dL_law_935 : decode cL_law 935 = .ok (.iadd, 1) := by decide +kernel
theorem dL_law_936 : decode cL_law 936 = .ok (.iaload, 1) := by decide +kernel
theorem dL_law_937 : decode cL_law 937 = .ok (.invokevirtual 121, 3) := by decide +kernel
theorem dL_law_940 : decode cL_law 940 = .ok (.aload_n 2, 1) := by decide +kernel
theorem dL_law_941 : decode cL_law 941 = .ok (.aload_n 0, 1) := by decide +kernel
theorem dL_law_942 : decode cL_law 942 = .ok (.iload 4, 2) := by decide +kernel
theorem dL_law_944 : decode cL_law 944 = .ok (.iconst 1, 1) := by decide +kernel
theorem dL_law_945 : decode cL_law 945 = .ok (.iadd, 1) := by decide +kernel
theorem dL_law_946 : decode cL_law 946 = .ok (.iaload, 1) := by decide +kernel
theorem dL_law_947 : decode cL_law 947 = .ok (.invokevirtual 124, 3) := by decide +kernel
theorem dL_law_950 : decode cL_law 950 = .ok (.if_icmp .eq 521, 3) := by decide +kernel
theorem dL_law_953 : decode cL_law 953 = .ok (.iconst 0, 1) := by decide +kernel
theorem dL_law_954 : decode cL_law 954 = .ok (.ireturn, 1) := by decide +kernel
theorem dL_law_955 : decode cL_law 955 = .ok (.aload_n 1, 1) := by decide +kernel
theorem dL_law_956 : decode cL_law 956 = .ok (.aload_n 0, 1) := by decide +kernel
theorem dL_law_957 : decode cL_law 957 = .ok (.iload 4, 2) := by decide +kernel
theorem dL_law_959 : decode cL_law 959 = .ok (.iconst 1, 1) := by decide +kernel
theorem dL_law_960 : decode cL_law 960 = .ok (.iadd, 1) := by decide +kernel
theorem dL_law_961 : decode cL_law 961 = .ok (.iaload, 1) := by decide +kernel
theorem dL_law_962 : decode cL_law 962 = .ok (.aload_n 0, 1) := by decide +kernel
theorem dL_law_963 : decode cL_law 963 = .ok (.iload 4, 2) := by decide +kernel
theorem dL_law_965 : decode cL_law 965 = .ok (.iconst 2, 1) := by decide +kernel
theorem dL_law_966 : decode cL_law 966 = .ok (.iadd, 1) := by decide +kernel
theorem dL_law_967 : decode cL_law 967 = .ok (.iaload, 1) := by decide +kernel
theorem dL_law_968 : decode cL_law 968 = .ok (.invokevirtual 125, 3) := by decide +kernel
theorem dL_law_971 : decode cL_law 971 = .ok (.aload_n 2, 1) := by decide +kernel
theorem dL_law_972 : decode cL_law 972 = .ok (.aload_n 0, 1) := by decide +kernel
theorem dL_law_973 : decode cL_law 973 = .ok (.iload 4, 2) := by decide +kernel
theorem dL_law_975 : decode cL_law 975 = .ok (.iconst 1, 1) := by decide +kernel
theorem dL_law_976 : decode cL_law 976 = .ok (.iadd, 1) := by decide +kernel
theorem dL_law_977 : decode cL_law 977 = .ok (.iaload, 1) := by decide +kernel
theorem dL_law_978 : decode cL_law 978 = .ok (.aload_n 0, 1) := by decide +kernel
theorem dL_law_979 : decode cL_law 979 = .ok (.iload 4, 2) := by decide +kernel
theorem dL_law_981 : decode cL_law 981 = .ok (.iconst 2, 1) := by decide +kernel
theorem dL_law_982 : decode cL_law 982 = .ok (.iadd, 1) := by decide +kernel
theorem dL_law_983 : decode cL_law 983 = .ok (.iaload, 1) := by decide +kernel
theorem dL_law_984 : decode cL_law 984 = .ok (.invokevirtual 128, 3) := by decide +kernel
theorem dL_law_987 : decode cL_law 987 = .ok (.if_icmp .eq 484, 3) := by decide +kernel
theorem dL_law_990 : decode cL_law 990 = .ok (.iconst 0, 1) := by decide +kernel
theorem dL_law_991 : decode cL_law 991 = .ok (.ireturn, 1) := by decide +kernel
theorem dL_law_992 : decode cL_law 992 = .ok (.aload_n 1, 1) := by decide +kernel
theorem dL_law_993 : decode cL_law 993 = .ok (.invokevirtual 129, 3) := by decide +kernel
theorem dL_law_996 : decode cL_law 996 = .ok (.aload_n 2, 1) := by decide +kernel
theorem dL_law_997 : decode cL_law 997 = .ok (.invokevirtual 132, 3) := by decide +kernel
theorem dL_law_1000 : decode cL_law 1000 = .ok (.if_icmp .eq 471, 3) := by decide +kernel
theorem dL_law_1003 : decode cL_law 1003 = .ok (.iconst 0, 1) := by decide +kernel
theorem dL_law_1004 : decode cL_law 1004 = .ok (.ireturn, 1) := by decide +kernel
theorem dL_law_1005 : decode cL_law 1005 = .ok (.aload_n 1, 1) := by decide +kernel
theorem dL_law_1006 : decode cL_law 1006 = .ok (.aload_n 0, 1) := by decide +kernel
theorem dL_law_1007 : decode cL_law 1007 = .ok (.iload 4, 2) := by decide +kernel
theorem dL_law_1009 : decode cL_law 1009 = .ok (.iconst 1, 1) := by decide +kernel
theorem dL_law_1010 : decode cL_law 1010 = .ok (.iadd, 1) := by decide +kernel
theorem dL_law_1011 : decode cL_law 1011 = .ok (.iaload, 1) := by decide +kernel
theorem dL_law_1012 : decode cL_law 1012 = .ok (.invokevirtual 133, 3) := by decide +kernel
theorem dL_law_1015 : decode cL_law 1015 = .ok (.aload_n 2, 1) := by decide +kernel
theorem dL_law_1016 : decode cL_law 1016 = .ok (.aload_n 0, 1) := by decide +kernel
theorem dL_law_1017 : decode cL_law 1017 = .ok (.iload 4, 2) := by decide +kernel
theorem dL_law_1019 : decode cL_law 1019 = .ok (.iconst 1, 1) := by decide +kernel
theorem dL_law_1020 : decode cL_law 1020 = .ok (.iadd, 1) := by decide +kernel
theorem dL_law_1021 : decode cL_law 1021 = .ok (.iaload, 1) := by decide +kernel
theorem dL_law_1022 : decode cL_law 1022 = .ok (.invokevirtual 136, 3) := by decide +kernel
theorem dL_law_1025 : decode cL_law 1025 = .ok (.if_icmp .eq 446, 3) := by decide +kernel
theorem dL_law_1028 : decode cL_law 1028 = .ok (.iconst 0, 1) := by decide +kernel
theorem dL_law_1029 : decode cL_law 1029 = .ok (.ireturn, 1) := by decide +kernel
theorem dL_law_1030 : decode cL_law 1030 = .ok (.aload_n 1, 1) := by decide +kernel
theorem dL_law_1031 : decode cL_law 1031 = .ok (.invokevirtual 137, 3) := by decide +kernel
theorem dL_law_1034 : decode cL_law 1034 = .ok (.aload_n 2, 1) := by decide +kernel
theorem dL_law_1035 : decode cL_law 1035 = .ok (.invokevirtual 140, 3) := by decide +kernel
theorem dL_law_1038 : decode cL_law 1038 = .ok (.if_icmp .eq 433, 3) := by decide +kernel
theorem dL_law_1041 : decode cL_law 1041 = .ok (.iconst 0, 1) := by decide +kernel
theorem dL_law_1042 : decode cL_law 1042 = .ok (.ireturn, 1) := by decide +kernel
theorem dL_law_1043 : decode cL_law 1043 = .ok (.aload_n 1, 1) := by decide +kernel
theorem dL_law_1044 : decode cL_law 1044 = .ok (.aload_n 0, 1) := by decide +kernel
theorem dL_law_1045 : decode cL_law 1045 = .ok (.iload 4, 2) := by decide +kernel
theorem dL_law_1047 : decode cL_law 1047 = .ok (.iconst 1, 1) := by decide +kernel
theorem dL_law_1048 : decode cL_law 1048 = .ok (.iadd, 1) := by decide +kernel
theorem dL_law_1049 : decode cL_law 1049 = .ok (.iaload, 1) := by decide +kernel
theorem dL_law_1050 : decode cL_law 1050 = .ok (.aload_n 0, 1) := by decide +kernel
theorem dL_law_1051 : decode cL_law 1051 = .ok (.iload 4, 2) := by decide +kernel
theorem dL_law_1053 : decode cL_law 1053 = .ok (.iconst 2, 1) := by decide +kernel
theorem dL_law_1054 : decode cL_law 1054 = .ok (.iadd, 1) := by decide +kernel
theorem dL_law_1055 : decode cL_law 1055 = .ok (.iaload, 1) := by decide +kernel
theorem dL_law_1056 : decode cL_law 1056 = .ok (.invokevirtual 141, 3) := by decide +kernel
theorem dL_law_1059 : decode cL_law 1059 = .ok (.aload_n 2, 1) := by decide +kernel
theorem dL_law_1060 : decode cL_law 1060 = .ok (.aload_n 0, 1) := by decide +kernel
theorem dL_law_1061 : decode cL_law 1061 = .ok (.iload 4, 2) := by decide +kernel
theorem dL_law_1063 : decode cL_law 1063 = .ok (.iconst 1, 1) := by decide +kernel
theorem dL_law_1064 : decode cL_law 1064 = .ok (.iadd, 1) := by decide +kernel
theorem dL_law_1065 : decode cL_law 1065 = .ok (.iaload, 1) := by decide +kernel
theorem dL_law_1066 : decode cL_law 1066 = .ok (.aload_n 0, 1) := by decide +kernel
theorem dL_law_1067 : decode cL_law 1067 = .ok (.iload 4, 2) := by decide +kernel
theorem dL_law_1069 : decode cL_law 1069 = .ok (.iconst 2, 1) := by decide +kernel
theorem dL_law_1070 : decode cL_law 1070 = .ok (.iadd, 1) := by decide +kernel
theorem dL_law_1071 : decode cL_law 1071 = .ok (.iaload, 1) := by decide +kernel
theorem dL_law_1072 : decode cL_law 1072 = .ok (.invokevirtual 144, 3) := by decide +kernel
theorem dL_law_1075 : decode cL_law 1075 = .ok (.if_icmp .eq 396, 3) := by decide +kernel
theorem dL_law_1078 : decode cL_law 1078 = .ok (.iconst 0, 1) := by decide +kernel
theorem dL_law_1079 : decode cL_law 1079 = .ok (.ireturn, 1) := by decide +kernel
theorem dL_law_1080 : decode cL_law 1080 = .ok (.aload_n 1, 1) := by decide +kernel
theorem dL_law_1081 : decode cL_law 1081 = .ok (.invokevirtual 145, 3) := by decide +kernel
theorem dL_law_1084 : decode cL_law 1084 = .ok (.aload_n 2, 1) := by decide +kernel
theorem dL_law_1085 : decode cL_law 1085 = .ok (.invokevirtual 148, 3) := by decide +kernel
theorem dL_law_1088 : decode cL_law 1088 = .ok (.if_icmp .eq 383, 3) := by decide +kernel
theorem dL_law_1091 : decode cL_law 1091 = .ok (.iconst 0, 1) := by decide +kernel
theorem dL_law_1092 : decode cL_law 1092 = .ok (.ireturn, 1) := by decide +kernel
theorem dL_law_1093 : decode cL_law 1093 = .ok (.aload_n 1, 1) := by decide +kernel
theorem dL_law_1094 : decode cL_law 1094 = .ok (.aload_n 0, 1) := by decide +kernel
theorem dL_law_1095 : decode cL_law 1095 = .ok (.iload 4, 2) := by decide +kernel
theorem dL_law_1097 : decode cL_law 1097 = .ok (.iconst 1, 1) := by decide +kernel
theorem dL_law_1098 : decode cL_law 1098 = .ok (.iadd, 1) := by decide +kernel
theorem dL_law_1099 : decode cL_law 1099 = .ok (.iaload, 1) := by decide +kernel
theorem dL_law_1100 : decode cL_law 1100 = .ok (.aload_n 0, 1) := by decide +kernel
theorem dL_law_1101 : decode cL_law 1101 = .ok (.iload 4, 2) := by decide +kernel
theorem dL_law_1103 : decode cL_law 1103 = .ok (.iconst 2, 1) := by decide +kernel
theorem dL_law_1104 : decode cL_law 1104 = .ok (.iadd, 1) := by decide +kernel
theorem dL_law_1105 : decode cL_law 1105 = .ok (.iaload, 1) := by decide +kernel
theorem dL_law_1106 : decode cL_law 1106 = .ok (.invokevirtual 149, 3) := by decide +kernel
theorem dL_law_1109 : decode cL_law 1109 = .ok (.aload_n 2, 1) := by decide +kernel
theorem dL_law_1110 : decode cL_law 1110 = .ok (.aload_n 0, 1) := by decide +kernel
theorem dL_law_1111 : decode cL_law 1111 = .ok (.iload 4, 2) := by decide +kernel
theorem dL_law_1113 : decode cL_law 1113 = .ok (.iconst 1, 1) := by decide +kernel
theorem dL_law_1114 : decode cL_law 1114 = .ok (.iadd, 1) := by decide +kernel
theorem dL_law_1115 : decode cL_law 1115 = .ok (.iaload, 1) := by decide +kernel
theorem dL_law_1116 : decode cL_law 1116 = .ok (.aload_n 0, 1) := by decide +kernel
theorem dL_law_1117 : decode cL_law 1117 = .ok (.iload 4, 2) := by decide +kernel
theorem dL_law_1119 : decode cL_law 1119 = .ok (.iconst 2, 1) := by decide +kernel
theorem dL_law_1120 : decode cL_law 1120 = .ok (.iadd, 1) := by decide +kernel
theorem dL_law_1121 : decode cL_law 1121 = .ok (.iaload, 1) := by decide +kernel
theorem dL_law_1122 : decode cL_law 1122 = .ok (.invokevirtual 152, 3) := by decide +kernel
theorem dL_law_1125 : decode cL_law 1125 = .ok (.if_icmp .eq 346, 3) := by decide +kernel
theorem dL_law_1128 : decode cL_law 1128 = .ok (.iconst 0, 1) := by decide +kernel
theorem dL_law_1129 : decode cL_law 1129 = .ok (.ireturn, 1) := by decide +kernel
theorem dL_law_1130 : decode cL_law 1130 = .ok (.aload_n 1, 1) := by decide +kernel
theorem dL_law_1131 : decode cL_law 1131 = .ok (.invokevirtual 153, 3) := by decide +kernel
theorem dL_law_1134 : decode cL_law 1134 = .ok (.aload_n 2, 1) := by decide +kernel
theorem dL_law_1135 : decode cL_law 1135 = .ok (.invokevirtual 156, 3) := by decide +kernel
theorem dL_law_1138 : decode cL_law 1138 = .ok (.if_icmp .eq 333, 3) := by decide +kernel
theorem dL_law_1141 : decode cL_law 1141 = .ok (.iconst 0, 1) := by decide +kernel
theorem dL_law_1142 : decode cL_law 1142 = .ok (.ireturn, 1) := by decide +kernel
theorem dL_law_1143 : decode cL_law 1143 = .ok (.aload_n 1, 1) := by decide +kernel
theorem dL_law_1144 : decode cL_law 1144 = .ok (.invokevirtual 157, 3) := by decide +kernel
theorem dL_law_1147 : decode cL_law 1147 = .ok (.aload_n 2, 1) := by decide +kernel
theorem dL_law_1148 : decode cL_law 1148 = .ok (.invokevirtual 160, 3) := by decide +kernel
theorem dL_law_1151 : decode cL_law 1151 = .ok (.if_icmp .eq 320, 3) := by decide +kernel
theorem dL_law_1154 : decode cL_law 1154 = .ok (.iconst 0, 1) := by decide +kernel
theorem dL_law_1155 : decode cL_law 1155 = .ok (.ireturn, 1) := by decide +kernel
theorem dL_law_1156 : decode cL_law 1156 = .ok (.aload_n 1, 1) := by decide +kernel
theorem dL_law_1157 : decode cL_law 1157 = .ok (.invokevirtual 161, 3) := by decide +kernel
theorem dL_law_1160 : decode cL_law 1160 = .ok (.aload_n 2, 1) := by decide +kernel
theorem dL_law_1161 : decode cL_law 1161 = .ok (.invokevirtual 165, 3) := by decide +kernel
theorem dL_law_1164 : decode cL_law 1164 = .ok (.lcmp, 1) := by decide +kernel
theorem dL_law_1165 : decode cL_law 1165 = .ok (.ifCond .eq 306, 3) := by decide +kernel
theorem dL_law_1168 : decode cL_law 1168 = .ok (.iconst 0, 1) := by decide +kernel
theorem dL_law_1169 : decode cL_law 1169 = .ok (.ireturn, 1) := by decide +kernel
theorem dL_law_1170 : decode cL_law 1170 = .ok (.aload_n 1, 1) := by decide +kernel
theorem dL_law_1171 : decode cL_law 1171 = .ok (.aload_n 0, 1) := by decide +kernel
theorem dL_law_1172 : decode cL_law 1172 = .ok (.iload 4, 2) := by decide +kernel
theorem dL_law_1174 : decode cL_law 1174 = .ok (.iconst 1, 1) := by decide +kernel
theorem dL_law_1175 : decode cL_law 1175 = .ok (.iadd, 1) := by decide +kernel
theorem dL_law_1176 : decode cL_law 1176 = .ok (.iaload, 1) := by decide +kernel
theorem dL_law_1177 : decode cL_law 1177 = .ok (.aload_n 0, 1) := by decide +kernel
theorem dL_law_1178 : decode cL_law 1178 = .ok (.iload 4, 2) := by decide +kernel
theorem dL_law_1180 : decode cL_law 1180 = .ok (.iconst 2, 1) := by decide +kernel
theorem dL_law_1181 : decode cL_law 1181 = .ok (.iadd, 1) := by decide +kernel
theorem dL_law_1182 : decode cL_law 1182 = .ok (.iaload, 1) := by decide +kernel
theorem dL_law_1183 : decode cL_law 1183 = .ok (.invokevirtual 166, 3) := by decide +kernel
theorem dL_law_1186 : decode cL_law 1186 = .ok (.aload_n 2, 1) := by decide +kernel
theorem dL_law_1187 : decode cL_law 1187 = .ok (.aload_n 0, 1) := by decide +kernel
theorem dL_law_1188 : decode cL_law 1188 = .ok (.iload 4, 2) := by decide +kernel
theorem dL_law_1190 : decode cL_law 1190 = .ok (.iconst 1, 1) := by decide +kernel
theorem dL_law_1191 : decode cL_law 1191 = .ok (.iadd, 1) := by decide +kernel
theorem dL_law_1192 : decode cL_law 1192 = .ok (.iaload, 1) := by decide +kernel
theorem dL_law_1193 : decode cL_law 1193 = .ok (.aload_n 0, 1) := by decide +kernel
theorem dL_law_1194 : decode cL_law 1194 = .ok (.iload 4, 2) := by decide +kernel
theorem dL_law_1196 : decode cL_law 1196 = .ok (.iconst 2, 1) := by decide +kernel
theorem dL_law_1197 : decode cL_law 1197 = .ok (.iadd, 1) := by decide +kernel
theorem dL_law_1198 : decode cL_law 1198 = .ok (.iaload, 1) := by decide +kernel
theorem dL_law_1199 : decode cL_law 1199 = .ok (.invokevirtual 170, 3) := by decide +kernel
theorem dL_law_1202 : decode cL_law 1202 = .ok (.lcmp, 1) := by decide +kernel
theorem dL_law_1203 : decode cL_law 1203 = .ok (.ifCond .eq 268, 3) := by decide +kernel
theorem dL_law_1206 : decode cL_law 1206 = .ok (.iconst 0, 1) := by decide +kernel
theorem dL_law_1207 : decode cL_law 1207 = .ok (.ireturn, 1) := by decide +kernel
theorem dL_law_1208 : decode cL_law 1208 = .ok (.aload_n 1, 1) := by decide +kernel
theorem dL_law_1209 : decode cL_law 1209 = .ok (.aload_n 0, 1) := by decide +kernel
theorem dL_law_1210 : decode cL_law 1210 = .ok (.iload 4, 2) := by decide +kernel
theorem dL_law_1212 : decode cL_law 1212 = .ok (.iconst 1, 1) := by decide +kernel
theorem dL_law_1213 : decode cL_law 1213 = .ok (.iadd, 1) := by decide +kernel
theorem dL_law_1214 : decode cL_law 1214 = .ok (.iaload, 1) := by decide +kernel
theorem dL_law_1215 : decode cL_law 1215 = .ok (.invokevirtual 171, 3) := by decide +kernel
theorem dL_law_1218 : decode cL_law 1218 = .ok (.aload_n 2, 1) := by decide +kernel
theorem dL_law_1219 : decode cL_law 1219 = .ok (.aload_n 0, 1) := by decide +kernel
theorem dL_law_1220 : decode cL_law 1220 = .ok (.iload 4, 2) := by decide +kernel
theorem dL_law_1222 : decode cL_law 1222 = .ok (.iconst 1, 1) := by decide +kernel
theorem dL_law_1223 : decode cL_law 1223 = .ok (.iadd, 1) := by decide +kernel
theorem dL_law_1224 : decode cL_law 1224 = .ok (.iaload, 1) := by decide +kernel
theorem dL_law_1225 : decode cL_law 1225 = .ok (.invokevirtual 174, 3) := by decide +kernel
theorem dL_law_1228 : decode cL_law 1228 = .ok (.if_icmp .eq 243, 3) := by decide +kernel
theorem dL_law_1231 : decode cL_law 1231 = .ok (.iconst 0, 1) := by decide +kernel
theorem dL_law_1232 : decode cL_law 1232 = .ok (.ireturn, 1) := by decide +kernel
theorem dL_law_1233 : decode cL_law 1233 = .ok (.aload_n 1, 1) := by decide +kernel
theorem dL_law_1234 : decode cL_law 1234 = .ok (.aload_n 0, 1) := by decide +kernel
theorem dL_law_1235 : decode cL_law 1235 = .ok (.iload 4, 2) := by decide +kernel
theorem dL_law_1237 : decode cL_law 1237 = .ok (.iconst 1, 1) := by decide +kernel
theorem dL_law_1238 : decode cL_law 1238 = .ok (.iadd, 1) := by decide +kernel
theorem dL_law_1239 : decode cL_law 1239 = .ok (.iaload, 1) := by decide +kernel
theorem dL_law_1240 : decode cL_law 1240 = .ok (.aload_n 0, 1) := by decide +kernel
theorem dL_law_1241 : decode cL_law 1241 = .ok (.iload 4, 2) := by decide +kernel
theorem dL_law_1243 : decode cL_law 1243 = .ok (.iconst 2, 1) := by decide +kernel
theorem dL_law_1244 : decode cL_law 1244 = .ok (.iadd, 1) := by decide +kernel
theorem dL_law_1245 : decode cL_law 1245 = .ok (.iaload, 1) := by decide +kernel
theorem dL_law_1246 : decode cL_law 1246 = .ok (.invokevirtual 175, 3) := by decide +kernel
theorem dL_law_1249 : decode cL_law 1249 = .ok (.aload_n 2, 1) := by decide +kernel
theorem dL_law_1250 : decode cL_law 1250 = .ok (.aload_n 0, 1) := by decide +kernel
theorem dL_law_1251 : decode cL_law 1251 = .ok (.iload 4, 2) := by decide +kernel
theorem dL_law_1253 : decode cL_law 1253 = .ok (.iconst 1, 1) := by decide +kernel
theorem dL_law_1254 : decode cL_law 1254 = .ok (.iadd, 1) := by decide +kernel
theorem dL_law_1255 : decode cL_law 1255 = .ok (.iaload, 1) := by decide +kernel
theorem dL_law_1256 : decode cL_law 1256 = .ok (.aload_n 0, 1) := by decide +kernel
theorem dL_law_1257 : decode cL_law 1257 = .ok (.iload 4, 2) := by decide +kernel
theorem dL_law_1259 : decode cL_law 1259 = .ok (.iconst 2, 1) := by decide +kernel
theorem dL_law_1260 : decode cL_law 1260 = .ok (.iadd, 1) := by decide +kernel
theorem dL_law_1261 : decode cL_law 1261 = .ok (.iaload, 1) := by decide +kernel
theorem dL_law_1262 : decode cL_law 1262 = .ok (.invokevirtual 178, 3) := by decide +kernel
theorem dL_law_1265 : decode cL_law 1265 = .ok (.if_icmp .eq 206, 3) := by decide +kernel
theorem dL_law_1268 : decode cL_law 1268 = .ok (.iconst 0, 1) := by decide +kernel
theorem dL_law_1269 : decode cL_law 1269 = .ok (.ireturn, 1) := by decide +kernel
theorem dL_law_1270 : decode cL_law 1270 = .ok (.aload_n 1, 1) := by decide +kernel
theorem dL_law_1271 : decode cL_law 1271 = .ok (.aload_n 0, 1) := by decide +kernel
theorem dL_law_1272 : decode cL_law 1272 = .ok (.iload 4, 2) := by decide +kernel
theorem dL_law_1274 : decode cL_law 1274 = .ok (.iconst 1, 1) := by decide +kernel
theorem dL_law_1275 : decode cL_law 1275 = .ok (.iadd, 1) := by decide +kernel
theorem dL_law_1276 : decode cL_law 1276 = .ok (.iaload, 1) := by decide +kernel
theorem dL_law_1277 : decode cL_law 1277 = .ok (.invokevirtual 179, 3) := by decide +kernel
theorem dL_law_1280 : decode cL_law 1280 = .ok (.aload_n 2, 1) := by decide +kernel
theorem dL_law_1281 : decode cL_law 1281 = .ok (.aload_n 0, 1) := by decide +kernel
theorem dL_law_1282 : decode cL_law 1282 = .ok (.iload 4, 2) := by decide +kernel
theorem dL_law_1284 : decode cL_law 1284 = .ok (.iconst 1, 1) := by decide +kernel
theorem dL_law_1285 : decode cL_law 1285 = .ok (.iadd, 1) := by decide +kernel
theorem dL_law_1286 : decode cL_law 1286 = .ok (.iaload, 1) := by decide +kernel
theorem dL_law_1287 : decode cL_law 1287 = .ok (.invokevirtual 182, 3) := by decide +kernel
theorem dL_law_1290 : decode cL_law 1290 = .ok (.if_icmp .eq 181, 3) := by decide +kernel
theorem dL_law_1293 : decode cL_law 1293 = .ok (.iconst 0, 1) := by decide +kernel
theorem dL_law_1294 : decode cL_law 1294 = .ok (.ireturn, 1) := by decide +kernel
theorem dL_law_1295 : decode cL_law 1295 = .ok (.aload_n 1, 1) := by decide +kernel
theorem dL_law_1296 : decode cL_law 1296 = .ok (.invokevirtual 183, 3) := by decide +kernel
theorem dL_law_1299 : decode cL_law 1299 = .ok (.aload_n 2, 1) := by decide +kernel
theorem dL_law_1300 : decode cL_law 1300 = .ok (.invokevirtual 186, 3) := by decide +kernel
theorem dL_law_1303 : decode cL_law 1303 = .ok (.if_icmp .eq 168, 3) := by decide +kernel
theorem dL_law_1306 : decode cL_law 1306 = .ok (.iconst 0, 1) := by decide +kernel
theorem dL_law_1307 : decode cL_law 1307 = .ok (.ireturn, 1) := by decide +kernel
theorem dL_law_1308 : decode cL_law 1308 = .ok (.aload_n 1, 1) := by decide +kernel
theorem dL_law_1309 : decode cL_law 1309 = .ok (.aload_n 0, 1) := by decide +kernel
theorem dL_law_1310 : decode cL_law 1310 = .ok (.iload 4, 2) := by decide +kernel
theorem dL_law_1312 : decode cL_law 1312 = .ok (.iconst 1, 1) := by decide +kernel
theorem dL_law_1313 : decode cL_law 1313 = .ok (.iadd, 1) := by decide +kernel
theorem dL_law_1314 : decode cL_law 1314 = .ok (.iaload, 1) := by decide +kernel
theorem dL_law_1315 : decode cL_law 1315 = .ok (.invokevirtual 187, 3) := by decide +kernel
theorem dL_law_1318 : decode cL_law 1318 = .ok (.aload_n 2, 1) := by decide +kernel
theorem dL_law_1319 : decode cL_law 1319 = .ok (.aload_n 0, 1) := by decide +kernel
theorem dL_law_1320 : decode cL_law 1320 = .ok (.iload 4, 2) := by decide +kernel
theorem dL_law_1322 : decode cL_law 1322 = .ok (.iconst 1, 1) := by decide +kernel
theorem dL_law_1323 : decode cL_law 1323 = .ok (.iadd, 1) := by decide +kernel
theorem dL_law_1324 : decode cL_law 1324 = .ok (.iaload, 1) := by decide +kernel
theorem dL_law_1325 : decode cL_law 1325 = .ok (.invokevirtual 190, 3) := by decide +kernel
theorem dL_law_1328 : decode cL_law 1328 = .ok (.if_icmp .eq 143, 3) := by decide +kernel
theorem dL_law_1331 : decode cL_law 1331 = .ok (.iconst 0, 1) := by decide +kernel
theorem dL_law_1332 : decode cL_law 1332 = .ok (.ireturn, 1) := by decide +kernel
theorem dL_law_1333 : decode cL_law 1333 = .ok (.aload_n 1, 1) := by decide +kernel
theorem dL_law_1334 : decode cL_law 1334 = .ok (.aload_n 0, 1) := by decide +kernel
theorem dL_law_1335 : decode cL_law 1335 = .ok (.iload 4, 2) := by decide +kernel
theorem dL_law_1337 : decode cL_law 1337 = .ok (.iconst 1, 1) := by decide +kernel
theorem dL_law_1338 : decode cL_law 1338 = .ok (.iadd, 1) := by decide +kernel
theorem dL_law_1339 : decode cL_law 1339 = .ok (.iaload, 1) := by decide +kernel
theorem dL_law_1340 : decode cL_law 1340 = .ok (.invokevirtual 191, 3) := by decide +kernel
theorem dL_law_1343 : decode cL_law 1343 = .ok (.aload_n 2, 1) := by decide +kernel
theorem dL_law_1344 : decode cL_law 1344 = .ok (.aload_n 0, 1) := by decide +kernel
theorem dL_law_1345 : decode cL_law 1345 = .ok (.iload 4, 2) := by decide +kernel
theorem dL_law_1347 : decode cL_law 1347 = .ok (.iconst 1, 1) := by decide +kernel
theorem dL_law_1348 : decode cL_law 1348 = .ok (.iadd, 1) := by decide +kernel
theorem dL_law_1349 : decode cL_law 1349 = .ok (.iaload, 1) := by decide +kernel
theorem dL_law_1350 : decode cL_law 1350 = .ok (.invokevirtual 194, 3) := by decide +kernel
theorem dL_law_1353 : decode cL_law 1353 = .ok (.if_icmp .eq 118, 3) := by decide +kernel
theorem dL_law_1356 : decode cL_law 1356 = .ok (.iconst 0, 1) := by decide +kernel
theorem dL_law_1357 : decode cL_law 1357 = .ok (.ireturn, 1) := by decide +kernel
theorem dL_law_1358 : decode cL_law 1358 = .ok (.aload_n 1, 1) := by decide +kernel
theorem dL_law_1359 : decode cL_law 1359 = .ok (.invokevirtual 195, 3) := by decide +kernel
theorem dL_law_1362 : decode cL_law 1362 = .ok (.aload_n 2, 1) := by decide +kernel
theorem dL_law_1363 : decode cL_law 1363 = .ok (.invokevirtual 198, 3) := by decide +kernel
theorem dL_law_1366 : decode cL_law 1366 = .ok (.if_icmp .eq 105, 3) := by decide +kernel
theorem dL_law_1369 : decode cL_law 1369 = .ok (.iconst 0, 1) := by decide +kernel
theorem dL_law_1370 : decode cL_law 1370 = .ok (.ireturn, 1) := by decide +kernel
theorem dL_law_1371 : decode cL_law 1371 = .ok (.aload_n 1, 1) := by decide +kernel
theorem dL_law_1372 : decode cL_law 1372 = .ok (.aload_n 0, 1) := by decide +kernel
theorem dL_law_1373 : decode cL_law 1373 = .ok (.iload 4, 2) := by decide +kernel
theorem dL_law_1375 : decode cL_law 1375 = .ok (.iconst 1, 1) := by decide +kernel
theorem dL_law_1376 : decode cL_law 1376 = .ok (.iadd, 1) := by decide +kernel
theorem dL_law_1377 : decode cL_law 1377 = .ok (.iaload, 1) := by decide +kernel
theorem dL_law_1378 : decode cL_law 1378 = .ok (.invokevirtual 199, 3) := by decide +kernel
theorem dL_law_1381 : decode cL_law 1381 = .ok (.aload_n 2, 1) := by decide +kernel
theorem dL_law_1382 : decode cL_law 1382 = .ok (.aload_n 0, 1) := by decide +kernel
theorem dL_law_1383 : decode cL_law 1383 = .ok (.iload 4, 2) := by decide +kernel
theorem dL_law_1385 : decode cL_law 1385 = .ok (.iconst 1, 1) := by decide +kernel
theorem dL_law_1386 : decode cL_law 1386 = .ok (.iadd, 1) := by decide +kernel
theorem dL_law_1387 : decode cL_law 1387 = .ok (.iaload, 1) := by decide +kernel
theorem dL_law_1388 : decode cL_law 1388 = .ok (.invokevirtual 202, 3) := by decide +kernel
theorem dL_law_1391 : decode cL_law 1391 = .ok (.if_icmp .eq 80, 3) := by decide +kernel
theorem dL_law_1394 : decode cL_law 1394 = .ok (.iconst 0, 1) := by decide +kernel
theorem dL_law_1395 : decode cL_law 1395 = .ok (.ireturn, 1) := by decide +kernel
theorem dL_law_1396 : decode cL_law 1396 = .ok (.aload_n 1, 1) := by decide +kernel
theorem dL_law_1397 : decode cL_law 1397 = .ok (.aload_n 0, 1) := by decide +kernel
theorem dL_law_1398 : decode cL_law 1398 = .ok (.iload 4, 2) := by decide +kernel
theorem dL_law_1400 : decode cL_law 1400 = .ok (.iconst 1, 1) := by decide +kernel
theorem dL_law_1401 : decode cL_law 1401 = .ok (.iadd, 1) := by decide +kernel
theorem dL_law_1402 : decode cL_law 1402 = .ok (.iaload, 1) := by decide +kernel
theorem dL_law_1403 : decode cL_law 1403 = .ok (.invokevirtual 203, 3) := by decide +kernel
theorem dL_law_1406 : decode cL_law 1406 = .ok (.aload_n 2, 1) := by decide +kernel
theorem dL_law_1407 : decode cL_law 1407 = .ok (.aload_n 0, 1) := by decide +kernel
theorem dL_law_1408 : decode cL_law 1408 = .ok (.iload 4, 2) := by decide +kernel
theorem dL_law_1410 : decode cL_law 1410 = .ok (.iconst 1, 1) := by decide +kernel
theorem dL_law_1411 : decode cL_law 1411 = .ok (.iadd, 1) := by decide +kernel
theorem dL_law_1412 : decode cL_law 1412 = .ok (.iaload, 1) := by decide +kernel
theorem dL_law_1413 : decode cL_law 1413 = .ok (.invokevirtual 206, 3) := by decide +kernel
theorem dL_law_1416 : decode cL_law 1416 = .ok (.if_icmp .eq 55, 3) := by decide +kernel
theorem dL_law_1419 : decode cL_law 1419 = .ok (.iconst 0, 1) := by decide +kernel
theorem dL_law_1420 : decode cL_law 1420 = .ok (.ireturn, 1) := by decide +kernel
theorem dL_law_1421 : decode cL_law 1421 = .ok (.aload_n 1, 1) := by decide +kernel
theorem dL_law_1422 : decode cL_law 1422 = .ok (.aload_n 0, 1) := by decide +kernel
theorem dL_law_1423 : decode cL_law 1423 = .ok (.iload 4, 2) := by decide +kernel
theorem dL_law_1425 : decode cL_law 1425 = .ok (.iconst 1, 1) := by decide +kernel
theorem dL_law_1426 : decode cL_law 1426 = .ok (.iadd, 1) := by decide +kernel
theorem dL_law_1427 : decode cL_law 1427 = .ok (.iaload, 1) := by decide +kernel
theorem dL_law_1428 : decode cL_law 1428 = .ok (.invokevirtual 207, 3) := by decide +kernel
theorem dL_law_1431 : decode cL_law 1431 = .ok (.aload_n 2, 1) := by decide +kernel
theorem dL_law_1432 : decode cL_law 1432 = .ok (.aload_n 0, 1) := by decide +kernel
theorem dL_law_1433 : decode cL_law 1433 = .ok (.iload 4, 2) := by decide +kernel
theorem dL_law_1435 : decode cL_law 1435 = .ok (.iconst 1, 1) := by decide +kernel
theorem dL_law_1436 : decode cL_law 1436 = .ok (.iadd, 1) := by decide +kernel
theorem dL_law_1437 : decode cL_law 1437 = .ok (.iaload, 1) := by decide +kernel
theorem dL_law_1438 : decode cL_law 1438 = .ok (.invokevirtual 210, 3) := by decide +kernel
theorem dL_law_1441 : decode cL_law 1441 = .ok (.if_icmp .eq 30, 3) := by decide +kernel
theorem dL_law_1444 : decode cL_law 1444 = .ok (.iconst 0, 1) := by decide +kernel
theorem dL_law_1445 : decode cL_law 1445 = .ok (.ireturn, 1) := by decide +kernel
theorem dL_law_1446 : decode cL_law 1446 = .ok (.aload_n 1, 1) := by decide +kernel
theorem dL_law_1447 : decode cL_law 1447 = .ok (.aload_n 0, 1) := by decide +kernel
theorem dL_law_1448 : decode cL_law 1448 = .ok (.iload 4, 2) := by decide +kernel
theorem dL_law_1450 : decode cL_law 1450 = .ok (.iconst 1, 1) := by decide +kernel
theorem dL_law_1451 : decode cL_law 1451 = .ok (.iadd, 1) := by decide +kernel
theorem dL_law_1452 : decode cL_law 1452 = .ok (.iaload, 1) := by decide +kernel
theorem dL_law_1453 : decode cL_law 1453 = .ok (.invokevirtual 211, 3) := by decide +kernel
theorem dL_law_1456 : decode cL_law 1456 = .ok (.aload_n 2, 1) := by decide +kernel
theorem dL_law_1457 : decode cL_law 1457 = .ok (.aload_n 0, 1) := by decide +kernel
theorem dL_law_1458 : decode cL_law 1458 = .ok (.iload 4, 2) := by decide +kernel
theorem dL_law_1460 : decode cL_law 1460 = .ok (.iconst 1, 1) := by decide +kernel
theorem dL_law_1461 : decode cL_law 1461 = .ok (.iadd, 1) := by decide +kernel
theorem dL_law_1462 : decode cL_law 1462 = .ok (.iaload, 1) := by decide +kernel
theorem dL_law_1463 : decode cL_law 1463 = .ok (.invokevirtual 214, 3) := by decide +kernel
theorem dL_law_1466 : decode cL_law 1466 = .ok (.if_icmp .eq 5, 3) := by decide +kernel
theorem dL_law_1469 : decode cL_law 1469 = .ok (.iconst 0, 1) := by decide +kernel
theorem dL_law_1470 : decode cL_law 1470 = .ok (.ireturn, 1) := by decide +kernel
theorem dL_law_1471 : decode cL_law 1471 = .ok (.iinc 4 6, 3) := by decide +kernel
theorem dL_law_1474 : decode cL_law 1474 = .ok (.goto (-1451), 3) := by decide +kernel
theorem dL_law_1477 : decode cL_law 1477 = .ok (.iconst 1, 1) := by decide +kernel
theorem dL_law_1478 : decode cL_law 1478 = .ok (.ireturn, 1) := by decide +kernel
theorem w_549 : Cond.methodLink RL 19 yX11_feed ∈ WS := ws_in (tk_3 (List.mem_of_getElem? (i := 69) rfl)) rfl
theorem w_552 : Cond.code yX11_feed cX11_feed 6 (some .int) ∈ WS := ws_in (tk_3 (List.mem_of_getElem? (i := 72) rfl)) rfl
theorem l_RL_19 : JLnk RL 19 yX11_feed cX11_feed 6 (some .int) 5 := ⟨w_549, w_552, w_1, by decide +kernel⟩
theorem w_550 : Cond.instanceMethod yX11_feed ∈ WS := ws_in (tk_3 (List.mem_of_getElem? (i := 70) rfl)) rfl
theorem w_551 : Cond.selects RX11 yX11_feed yX11_feed ∈ WS := ws_in (tk_3 (List.mem_of_getElem? (i := 71) rfl)) rfl
theorem v_RL_19 : JVir RL 19 yX11_feed cX11_feed 6 (some .int) 5 11 := ⟨l_RL_19, w_550, w_551, TX11, 19, rfl⟩
theorem w_1645 : Cond.methodLink RL 23 yX12_feed ∈ WS := ws_in (tk_7 (List.mem_of_getElem? (i := 205) rfl)) rfl
theorem w_1648 : Cond.code yX12_feed cX12_feed 6 (some .int) ∈ WS := ws_in (tk_7 (List.mem_of_getElem? (i := 208) rfl)) rfl
theorem l_RL_23 : JLnk RL 23 yX12_feed cX12_feed 6 (some .int) 5 := ⟨w_1645, w_1648, w_13, by decide +kernel⟩
theorem w_1646 : Cond.instanceMethod yX12_feed ∈ WS := ws_in (tk_7 (List.mem_of_getElem? (i := 206) rfl)) rfl
theorem w_1647 : Cond.selects RX12 yX12_feed yX12_feed ∈ WS := ws_in (tk_7 (List.mem_of_getElem? (i := 207) rfl)) rfl
theorem v_RL_23 : JVir RL 23 yX12_feed cX12_feed 6 (some .int) 5 12 := ⟨l_RL_23, w_1646, w_1647, TX12, 52, rfl⟩
theorem w_557 : Cond.methodLink RL 24 yX11_end ∈ WS := ws_in (tk_3 (List.mem_of_getElem? (i := 77) rfl)) rfl
theorem w_560 : Cond.code yX11_end cX11_end 2 (some .boolean) ∈ WS := ws_in (tk_3 (List.mem_of_getElem? (i := 80) rfl)) rfl
theorem l_RL_24 : JLnk RL 24 yX11_end cX11_end 2 (some .boolean) 1 := ⟨w_557, w_560, w_1, by decide +kernel⟩
theorem w_558 : Cond.instanceMethod yX11_end ∈ WS := ws_in (tk_3 (List.mem_of_getElem? (i := 78) rfl)) rfl
theorem w_559 : Cond.selects RX11 yX11_end yX11_end ∈ WS := ws_in (tk_3 (List.mem_of_getElem? (i := 79) rfl)) rfl
theorem v_RL_24 : JVir RL 24 yX11_end cX11_end 2 (some .boolean) 1 11 := ⟨l_RL_24, w_558, w_559, TX11, 19, rfl⟩
theorem w_1653 : Cond.methodLink RL 28 yX12_end ∈ WS := ws_in (tk_7 (List.mem_of_getElem? (i := 213) rfl)) rfl
theorem w_1656 : Cond.code yX12_end cX12_end 2 (some .boolean) ∈ WS := ws_in (tk_7 (List.mem_of_getElem? (i := 216) rfl)) rfl
theorem l_RL_28 : JLnk RL 28 yX12_end cX12_end 2 (some .boolean) 1 := ⟨w_1653, w_1656, w_13, by decide +kernel⟩
theorem w_1654 : Cond.instanceMethod yX12_end ∈ WS := ws_in (tk_7 (List.mem_of_getElem? (i := 214) rfl)) rfl
theorem w_1655 : Cond.selects RX12 yX12_end yX12_end ∈ WS := ws_in (tk_7 (List.mem_of_getElem? (i := 215) rfl)) rfl
theorem v_RL_28 : JVir RL 28 yX12_end cX12_end 2 (some .boolean) 1 12 := ⟨l_RL_28, w_1654, w_1655, TX12, 52, rfl⟩
theorem w_561 : Cond.methodLink RL 29 yX11_island ∈ WS := ws_in (tk_3 (List.mem_of_getElem? (i := 81) rfl)) rfl
theorem w_564 : Cond.code yX11_island cX11_island 1 (some .int) ∈ WS := ws_in (tk_3 (List.mem_of_getElem? (i := 84) rfl)) rfl
theorem l_RL_29 : JLnk RL 29 yX11_island cX11_island 1 (some .int) 0 := ⟨w_561, w_564, w_1, by decide +kernel⟩
theorem w_562 : Cond.instanceMethod yX11_island ∈ WS := ws_in (tk_3 (List.mem_of_getElem? (i := 82) rfl)) rfl
theorem w_563 : Cond.selects RX11 yX11_island yX11_island ∈ WS := ws_in (tk_3 (List.mem_of_getElem? (i := 83) rfl)) rfl
theorem v_RL_29 : JVir RL 29 yX11_island cX11_island 1 (some .int) 0 11 := ⟨l_RL_29, w_562, w_563, TX11, 19, rfl⟩
theorem w_1657 : Cond.methodLink RL 33 yX12_island ∈ WS := ws_in (tk_7 (List.mem_of_getElem? (i := 217) rfl)) rfl
theorem w_1660 : Cond.code yX12_island cX12_island 3 (some .int) ∈ WS := ws_in (tk_7 (List.mem_of_getElem? (i := 220) rfl)) rfl
theorem l_RL_33 : JLnk RL 33 yX12_island cX12_island 3 (some .int) 0 := ⟨w_1657, w_1660, w_13, by decide +kernel⟩
theorem w_1658 : Cond.instanceMethod yX12_island ∈ WS := ws_in (tk_7 (List.mem_of_getElem? (i := 218) rfl)) rfl
theorem w_1659 : Cond.selects RX12 yX12_island yX12_island ∈ WS := ws_in (tk_7 (List.mem_of_getElem? (i := 219) rfl)) rfl
theorem v_RL_33 : JVir RL 33 yX12_island cX12_island 3 (some .int) 0 12 := ⟨l_RL_33, w_1658, w_1659, TX12, 52, rfl⟩
theorem w_799 : Cond.methodLink RL 34 yX11_fault ∈ WS := ws_in (tk_4 (List.mem_of_getElem? (i := 79) rfl)) rfl
theorem w_802 : Cond.code yX11_fault cX11_fault 1 (some .int) ∈ WS := ws_in (tk_4 (List.mem_of_getElem? (i := 82) rfl)) rfl
theorem l_RL_34 : JLnk RL 34 yX11_fault cX11_fault 1 (some .int) 0 := ⟨w_799, w_802, w_1, by decide +kernel⟩
theorem w_800 : Cond.instanceMethod yX11_fault ∈ WS := ws_in (tk_4 (List.mem_of_getElem? (i := 80) rfl)) rfl
theorem w_801 : Cond.selects RX11 yX11_fault yX11_fault ∈ WS := ws_in (tk_4 (List.mem_of_getElem? (i := 81) rfl)) rfl
theorem v_RL_34 : JVir RL 34 yX11_fault cX11_fault 1 (some .int) 0 11 := ⟨l_RL_34, w_800, w_801, TX11, 19, rfl⟩
theorem w_1762 : Cond.methodLink RL 37 yX12_fault ∈ WS := ws_in (tk_8 (List.mem_of_getElem? (i := 82) rfl)) rfl
theorem w_1765 : Cond.code yX12_fault cX12_fault 1 (some .int) ∈ WS := ws_in (tk_8 (List.mem_of_getElem? (i := 85) rfl)) rfl
theorem l_RL_37 : JLnk RL 37 yX12_fault cX12_fault 1 (some .int) 0 := ⟨w_1762, w_1765, w_13, by decide +kernel⟩
theorem w_1763 : Cond.instanceMethod yX12_fault ∈ WS := ws_in (tk_8 (List.mem_of_getElem? (i := 83) rfl)) rfl
theorem w_1764 : Cond.selects RX12 yX12_fault yX12_fault ∈ WS := ws_in (tk_8 (List.mem_of_getElem? (i := 84) rfl)) rfl
theorem v_RL_37 : JVir RL 37 yX12_fault cX12_fault 1 (some .int) 0 12 := ⟨l_RL_37, w_1763, w_1764, TX12, 52, rfl⟩
theorem w_803 : Cond.methodLink RL 47 yX11_find ∈ WS := ws_in (tk_4 (List.mem_of_getElem? (i := 83) rfl)) rfl
theorem w_806 : Cond.code yX11_find cX11_find 3 (some .int) ∈ WS := ws_in (tk_4 (List.mem_of_getElem? (i := 86) rfl)) rfl
theorem l_RL_47 : JLnk RL 47 yX11_find cX11_find 3 (some .int) 2 := ⟨w_803, w_806, w_1, by decide +kernel⟩
theorem w_804 : Cond.instanceMethod yX11_find ∈ WS := ws_in (tk_4 (List.mem_of_getElem? (i := 84) rfl)) rfl
theorem w_805 : Cond.selects RX11 yX11_find yX11_find ∈ WS := ws_in (tk_4 (List.mem_of_getElem? (i := 85) rfl)) rfl
theorem v_RL_47 : JVir RL 47 yX11_find cX11_find 3 (some .int) 2 11 := ⟨l_RL_47, w_804, w_805, TX11, 19, rfl⟩
theorem w_1798 : Cond.methodLink RL 50 yX12_find ∈ WS := ws_in (tk_8 (List.mem_of_getElem? (i := 118) rfl)) rfl
theorem w_1801 : Cond.code yX12_find cX12_find 3 (some .int) ∈ WS := ws_in (tk_8 (List.mem_of_getElem? (i := 121) rfl)) rfl
theorem l_RL_50 : JLnk RL 50 yX12_find cX12_find 3 (some .int) 2 := ⟨w_1798, w_1801, w_13, by decide +kernel⟩
theorem w_1799 : Cond.instanceMethod yX12_find ∈ WS := ws_in (tk_8 (List.mem_of_getElem? (i := 119) rfl)) rfl
theorem w_1800 : Cond.selects RX12 yX12_find yX12_find ∈ WS := ws_in (tk_8 (List.mem_of_getElem? (i := 120) rfl)) rfl
theorem v_RL_50 : JVir RL 50 yX12_find cX12_find 3 (some .int) 2 12 := ⟨l_RL_50, w_1799, w_1800, TX12, 52, rfl⟩
theorem w_808 : Cond.methodLink RL 51 yX11_widow ∈ WS := ws_in (tk_4 (List.mem_of_getElem? (i := 88) rfl)) rfl
theorem w_811 : Cond.code yX11_widow cX11_widow 3 (some .int) ∈ WS := ws_in (tk_4 (List.mem_of_getElem? (i := 91) rfl)) rfl
theorem l_RL_51 : JLnk RL 51 yX11_widow cX11_widow 3 (some .int) 2 := ⟨w_808, w_811, w_1, by decide +kernel⟩
theorem w_809 : Cond.instanceMethod yX11_widow ∈ WS := ws_in (tk_4 (List.mem_of_getElem? (i := 89) rfl)) rfl
theorem w_810 : Cond.selects RX11 yX11_widow yX11_widow ∈ WS := ws_in (tk_4 (List.mem_of_getElem? (i := 90) rfl)) rfl
theorem v_RL_51 : JVir RL 51 yX11_widow cX11_widow 3 (some .int) 2 11 := ⟨l_RL_51, w_809, w_810, TX11, 19, rfl⟩
theorem w_1802 : Cond.methodLink RL 54 yX12_widow ∈ WS := ws_in (tk_8 (List.mem_of_getElem? (i := 122) rfl)) rfl
theorem w_1805 : Cond.code yX12_widow cX12_widow 5 (some .int) ∈ WS := ws_in (tk_8 (List.mem_of_getElem? (i := 125) rfl)) rfl
theorem l_RL_54 : JLnk RL 54 yX12_widow cX12_widow 5 (some .int) 2 := ⟨w_1802, w_1805, w_13, by decide +kernel⟩
theorem w_1803 : Cond.instanceMethod yX12_widow ∈ WS := ws_in (tk_8 (List.mem_of_getElem? (i := 123) rfl)) rfl
theorem w_1804 : Cond.selects RX12 yX12_widow yX12_widow ∈ WS := ws_in (tk_8 (List.mem_of_getElem? (i := 124) rfl)) rfl
theorem v_RL_54 : JVir RL 54 yX12_widow cX12_widow 5 (some .int) 2 12 := ⟨l_RL_54, w_1803, w_1804, TX12, 52, rfl⟩
theorem w_832 : Cond.methodLink RL 55 yX11_fits ∈ WS := ws_in (tk_4 (List.mem_of_getElem? (i := 112) rfl)) rfl
theorem w_835 : Cond.code yX11_fits cX11_fits 3 (some .int) ∈ WS := ws_in (tk_4 (List.mem_of_getElem? (i := 115) rfl)) rfl
theorem l_RL_55 : JLnk RL 55 yX11_fits cX11_fits 3 (some .int) 2 := ⟨w_832, w_835, w_1, by decide +kernel⟩
theorem w_833 : Cond.instanceMethod yX11_fits ∈ WS := ws_in (tk_4 (List.mem_of_getElem? (i := 113) rfl)) rfl
theorem w_834 : Cond.selects RX11 yX11_fits yX11_fits ∈ WS := ws_in (tk_4 (List.mem_of_getElem? (i := 114) rfl)) rfl
theorem v_RL_55 : JVir RL 55 yX11_fits cX11_fits 3 (some .int) 2 11 := ⟨l_RL_55, w_833, w_834, TX11, 19, rfl⟩
theorem w_1822 : Cond.methodLink RL 58 yX12_fits ∈ WS := ws_in (tk_8 (List.mem_of_getElem? (i := 142) rfl)) rfl
theorem w_1825 : Cond.code yX12_fits cX12_fits 3 (some .int) ∈ WS := ws_in (tk_8 (List.mem_of_getElem? (i := 145) rfl)) rfl
theorem l_RL_58 : JLnk RL 58 yX12_fits cX12_fits 3 (some .int) 2 := ⟨w_1822, w_1825, w_13, by decide +kernel⟩
theorem w_1823 : Cond.instanceMethod yX12_fits ∈ WS := ws_in (tk_8 (List.mem_of_getElem? (i := 143) rfl)) rfl
theorem w_1824 : Cond.selects RX12 yX12_fits yX12_fits ∈ WS := ws_in (tk_8 (List.mem_of_getElem? (i := 144) rfl)) rfl
theorem v_RL_58 : JVir RL 58 yX12_fits cX12_fits 3 (some .int) 2 12 := ⟨l_RL_58, w_1823, w_1824, TX12, 52, rfl⟩
theorem w_843 : Cond.methodLink RL 59 yX11_at ∈ WS := ws_in (tk_4 (List.mem_of_getElem? (i := 123) rfl)) rfl
theorem w_846 : Cond.code yX11_at cX11_at 2 (some .int) ∈ WS := ws_in (tk_4 (List.mem_of_getElem? (i := 126) rfl)) rfl
theorem l_RL_59 : JLnk RL 59 yX11_at cX11_at 2 (some .int) 1 := ⟨w_843, w_846, w_1, by decide +kernel⟩
theorem w_844 : Cond.instanceMethod yX11_at ∈ WS := ws_in (tk_4 (List.mem_of_getElem? (i := 124) rfl)) rfl
theorem w_845 : Cond.selects RX11 yX11_at yX11_at ∈ WS := ws_in (tk_4 (List.mem_of_getElem? (i := 125) rfl)) rfl
theorem v_RL_59 : JVir RL 59 yX11_at cX11_at 2 (some .int) 1 11 := ⟨l_RL_59, w_844, w_845, TX11, 19, rfl⟩
theorem w_1830 : Cond.methodLink RL 63 yX12_at ∈ WS := ws_in (tk_8 (List.mem_of_getElem? (i := 150) rfl)) rfl
theorem w_1833 : Cond.code yX12_at cX12_at 2 (some .int) ∈ WS := ws_in (tk_8 (List.mem_of_getElem? (i := 153) rfl)) rfl
theorem l_RL_63 : JLnk RL 63 yX12_at cX12_at 2 (some .int) 1 := ⟨w_1830, w_1833, w_13, by decide +kernel⟩
theorem w_1831 : Cond.instanceMethod yX12_at ∈ WS := ws_in (tk_8 (List.mem_of_getElem? (i := 151) rfl)) rfl
theorem w_1832 : Cond.selects RX12 yX12_at yX12_at ∈ WS := ws_in (tk_8 (List.mem_of_getElem? (i := 152) rfl)) rfl
theorem v_RL_63 : JVir RL 63 yX12_at cX12_at 2 (some .int) 1 12 := ⟨l_RL_63, w_1831, w_1832, TX12, 52, rfl⟩
theorem w_847 : Cond.methodLink RL 64 yX11_pips ∈ WS := ws_in (tk_4 (List.mem_of_getElem? (i := 127) rfl)) rfl
theorem w_850 : Cond.code yX11_pips cX11_pips 2 (some .int) ∈ WS := ws_in (tk_4 (List.mem_of_getElem? (i := 130) rfl)) rfl
theorem l_RL_64 : JLnk RL 64 yX11_pips cX11_pips 2 (some .int) 1 := ⟨w_847, w_850, w_1, by decide +kernel⟩
theorem w_848 : Cond.instanceMethod yX11_pips ∈ WS := ws_in (tk_4 (List.mem_of_getElem? (i := 128) rfl)) rfl
theorem w_849 : Cond.selects RX11 yX11_pips yX11_pips ∈ WS := ws_in (tk_4 (List.mem_of_getElem? (i := 129) rfl)) rfl
theorem v_RL_64 : JVir RL 64 yX11_pips cX11_pips 2 (some .int) 1 11 := ⟨l_RL_64, w_848, w_849, TX11, 19, rfl⟩
theorem w_1834 : Cond.methodLink RL 67 yX12_pips ∈ WS := ws_in (tk_8 (List.mem_of_getElem? (i := 154) rfl)) rfl
theorem w_1837 : Cond.code yX12_pips cX12_pips 2 (some .int) ∈ WS := ws_in (tk_8 (List.mem_of_getElem? (i := 157) rfl)) rfl
theorem l_RL_67 : JLnk RL 67 yX12_pips cX12_pips 2 (some .int) 1 := ⟨w_1834, w_1837, w_13, by decide +kernel⟩
theorem w_1835 : Cond.instanceMethod yX12_pips ∈ WS := ws_in (tk_8 (List.mem_of_getElem? (i := 155) rfl)) rfl
theorem w_1836 : Cond.selects RX12 yX12_pips yX12_pips ∈ WS := ws_in (tk_8 (List.mem_of_getElem? (i := 156) rfl)) rfl
theorem v_RL_67 : JVir RL 67 yX12_pips cX12_pips 2 (some .int) 1 12 := ⟨l_RL_67, w_1835, w_1836, TX12, 52, rfl⟩
theorem w_866 : Cond.methodLink RL 68 yX11_why ∈ WS := ws_in (tk_4 (List.mem_of_getElem? (i := 146) rfl)) rfl
theorem w_869 : Cond.code yX11_why cX11_why 4 (some .int) ∈ WS := ws_in (tk_4 (List.mem_of_getElem? (i := 149) rfl)) rfl
theorem l_RL_68 : JLnk RL 68 yX11_why cX11_why 4 (some .int) 3 := ⟨w_866, w_869, w_1, by decide +kernel⟩
theorem w_867 : Cond.instanceMethod yX11_why ∈ WS := ws_in (tk_4 (List.mem_of_getElem? (i := 147) rfl)) rfl
theorem w_868 : Cond.selects RX11 yX11_why yX11_why ∈ WS := ws_in (tk_4 (List.mem_of_getElem? (i := 148) rfl)) rfl
theorem v_RL_68 : JVir RL 68 yX11_why cX11_why 4 (some .int) 3 11 := ⟨l_RL_68, w_867, w_868, TX11, 19, rfl⟩
theorem w_1850 : Cond.methodLink RL 72 yX12_why ∈ WS := ws_in (tk_8 (List.mem_of_getElem? (i := 170) rfl)) rfl
theorem w_1853 : Cond.code yX12_why cX12_why 4 (some .int) ∈ WS := ws_in (tk_8 (List.mem_of_getElem? (i := 173) rfl)) rfl
theorem l_RL_72 : JLnk RL 72 yX12_why cX12_why 4 (some .int) 3 := ⟨w_1850, w_1853, w_13, by decide +kernel⟩
theorem w_1851 : Cond.instanceMethod yX12_why ∈ WS := ws_in (tk_8 (List.mem_of_getElem? (i := 171) rfl)) rfl
theorem w_1852 : Cond.selects RX12 yX12_why yX12_why ∈ WS := ws_in (tk_8 (List.mem_of_getElem? (i := 172) rfl)) rfl
theorem v_RL_72 : JVir RL 72 yX12_why cX12_why 4 (some .int) 3 12 := ⟨l_RL_72, w_1851, w_1852, TX12, 52, rfl⟩
theorem w_888 : Cond.methodLink RL 73 yX11_lay ∈ WS := ws_in (tk_4 (List.mem_of_getElem? (i := 168) rfl)) rfl
theorem w_891 : Cond.code yX11_lay cX11_lay 5 (some .int) ∈ WS := ws_in (tk_4 (List.mem_of_getElem? (i := 171) rfl)) rfl
theorem l_RL_73 : JLnk RL 73 yX11_lay cX11_lay 5 (some .int) 3 := ⟨w_888, w_891, w_1, by decide +kernel⟩
theorem w_889 : Cond.instanceMethod yX11_lay ∈ WS := ws_in (tk_4 (List.mem_of_getElem? (i := 169) rfl)) rfl
theorem w_890 : Cond.selects RX11 yX11_lay yX11_lay ∈ WS := ws_in (tk_4 (List.mem_of_getElem? (i := 170) rfl)) rfl
theorem v_RL_73 : JVir RL 73 yX11_lay cX11_lay 5 (some .int) 3 11 := ⟨l_RL_73, w_889, w_890, TX11, 19, rfl⟩
theorem w_1869 : Cond.methodLink RL 76 yX12_lay ∈ WS := ws_in (tk_8 (List.mem_of_getElem? (i := 189) rfl)) rfl
theorem w_1872 : Cond.code yX12_lay cX12_lay 5 (some .int) ∈ WS := ws_in (tk_8 (List.mem_of_getElem? (i := 192) rfl)) rfl
theorem l_RL_76 : JLnk RL 76 yX12_lay cX12_lay 5 (some .int) 3 := ⟨w_1869, w_1872, w_13, by decide +kernel⟩
theorem w_1870 : Cond.instanceMethod yX12_lay ∈ WS := ws_in (tk_8 (List.mem_of_getElem? (i := 190) rfl)) rfl
theorem w_1871 : Cond.selects RX12 yX12_lay yX12_lay ∈ WS := ws_in (tk_8 (List.mem_of_getElem? (i := 191) rfl)) rfl
theorem v_RL_76 : JVir RL 76 yX12_lay cX12_lay 5 (some .int) 3 12 := ⟨l_RL_76, w_1870, w_1871, TX12, 52, rfl⟩
theorem w_910 : Cond.methodLink RL 77 yX11_cat ∈ WS := ws_in (tk_4 (List.mem_of_getElem? (i := 190) rfl)) rfl
theorem w_913 : Cond.code yX11_cat cX11_cat 2 (some .int) ∈ WS := ws_in (tk_4 (List.mem_of_getElem? (i := 193) rfl)) rfl
theorem l_RL_77 : JLnk RL 77 yX11_cat cX11_cat 2 (some .int) 1 := ⟨w_910, w_913, w_1, by decide +kernel⟩
theorem w_911 : Cond.instanceMethod yX11_cat ∈ WS := ws_in (tk_4 (List.mem_of_getElem? (i := 191) rfl)) rfl
theorem w_912 : Cond.selects RX11 yX11_cat yX11_cat ∈ WS := ws_in (tk_4 (List.mem_of_getElem? (i := 192) rfl)) rfl
theorem v_RL_77 : JVir RL 77 yX11_cat cX11_cat 2 (some .int) 1 11 := ⟨l_RL_77, w_911, w_912, TX11, 19, rfl⟩
theorem w_1881 : Cond.methodLink RL 80 yX12_cat ∈ WS := ws_in (tk_8 (List.mem_of_getElem? (i := 201) rfl)) rfl
theorem w_1884 : Cond.code yX12_cat cX12_cat 2 (some .int) ∈ WS := ws_in (tk_8 (List.mem_of_getElem? (i := 204) rfl)) rfl
theorem l_RL_80 : JLnk RL 80 yX12_cat cX12_cat 2 (some .int) 1 := ⟨w_1881, w_1884, w_13, by decide +kernel⟩
theorem w_1882 : Cond.instanceMethod yX12_cat ∈ WS := ws_in (tk_8 (List.mem_of_getElem? (i := 202) rfl)) rfl
theorem w_1883 : Cond.selects RX12 yX12_cat yX12_cat ∈ WS := ws_in (tk_8 (List.mem_of_getElem? (i := 203) rfl)) rfl
theorem v_RL_80 : JVir RL 80 yX12_cat cX12_cat 2 (some .int) 1 12 := ⟨l_RL_80, w_1882, w_1883, TX12, 52, rfl⟩
theorem w_919 : Cond.methodLink RL 81 yX11_tide ∈ WS := ws_in (tk_4 (List.mem_of_getElem? (i := 199) rfl)) rfl
theorem w_922 : Cond.code yX11_tide cX11_tide 1 (some .int) ∈ WS := ws_in (tk_4 (List.mem_of_getElem? (i := 202) rfl)) rfl
theorem l_RL_81 : JLnk RL 81 yX11_tide cX11_tide 1 (some .int) 0 := ⟨w_919, w_922, w_1, by decide +kernel⟩
theorem w_920 : Cond.instanceMethod yX11_tide ∈ WS := ws_in (tk_4 (List.mem_of_getElem? (i := 200) rfl)) rfl
theorem w_921 : Cond.selects RX11 yX11_tide yX11_tide ∈ WS := ws_in (tk_4 (List.mem_of_getElem? (i := 201) rfl)) rfl
theorem v_RL_81 : JVir RL 81 yX11_tide cX11_tide 1 (some .int) 0 11 := ⟨l_RL_81, w_920, w_921, TX11, 19, rfl⟩
theorem w_1889 : Cond.methodLink RL 84 yX12_tide ∈ WS := ws_in (tk_8 (List.mem_of_getElem? (i := 209) rfl)) rfl
theorem w_1892 : Cond.code yX12_tide cX12_tide 1 (some .int) ∈ WS := ws_in (tk_8 (List.mem_of_getElem? (i := 212) rfl)) rfl
theorem l_RL_84 : JLnk RL 84 yX12_tide cX12_tide 1 (some .int) 0 := ⟨w_1889, w_1892, w_13, by decide +kernel⟩
theorem w_1890 : Cond.instanceMethod yX12_tide ∈ WS := ws_in (tk_8 (List.mem_of_getElem? (i := 210) rfl)) rfl
theorem w_1891 : Cond.selects RX12 yX12_tide yX12_tide ∈ WS := ws_in (tk_8 (List.mem_of_getElem? (i := 211) rfl)) rfl
theorem v_RL_84 : JVir RL 84 yX12_tide cX12_tide 1 (some .int) 0 12 := ⟨l_RL_84, w_1890, w_1891, TX12, 52, rfl⟩
theorem w_927 : Cond.methodLink RL 85 yX11_pawn ∈ WS := ws_in (tk_4 (List.mem_of_getElem? (i := 207) rfl)) rfl
theorem w_930 : Cond.code yX11_pawn cX11_pawn 2 (some .int) ∈ WS := ws_in (tk_4 (List.mem_of_getElem? (i := 210) rfl)) rfl
theorem l_RL_85 : JLnk RL 85 yX11_pawn cX11_pawn 2 (some .int) 1 := ⟨w_927, w_930, w_1, by decide +kernel⟩
theorem w_928 : Cond.instanceMethod yX11_pawn ∈ WS := ws_in (tk_4 (List.mem_of_getElem? (i := 208) rfl)) rfl
theorem w_929 : Cond.selects RX11 yX11_pawn yX11_pawn ∈ WS := ws_in (tk_4 (List.mem_of_getElem? (i := 209) rfl)) rfl
theorem v_RL_85 : JVir RL 85 yX11_pawn cX11_pawn 2 (some .int) 1 11 := ⟨l_RL_85, w_928, w_929, TX11, 19, rfl⟩
theorem w_1897 : Cond.methodLink RL 88 yX12_pawn ∈ WS := ws_in (tk_8 (List.mem_of_getElem? (i := 217) rfl)) rfl
theorem w_1900 : Cond.code yX12_pawn cX12_pawn 2 (some .int) ∈ WS := ws_in (tk_8 (List.mem_of_getElem? (i := 220) rfl)) rfl
theorem l_RL_88 : JLnk RL 88 yX12_pawn cX12_pawn 2 (some .int) 1 := ⟨w_1897, w_1900, w_13, by decide +kernel⟩
theorem w_1898 : Cond.instanceMethod yX12_pawn ∈ WS := ws_in (tk_8 (List.mem_of_getElem? (i := 218) rfl)) rfl
theorem w_1899 : Cond.selects RX12 yX12_pawn yX12_pawn ∈ WS := ws_in (tk_8 (List.mem_of_getElem? (i := 219) rfl)) rfl
theorem v_RL_88 : JVir RL 88 yX12_pawn cX12_pawn 2 (some .int) 1 12 := ⟨l_RL_88, w_1898, w_1899, TX12, 52, rfl⟩
theorem w_932 : Cond.methodLink RL 89 yX11_redeem ∈ WS := ws_in (tk_4 (List.mem_of_getElem? (i := 212) rfl)) rfl
theorem w_935 : Cond.code yX11_redeem cX11_redeem 2 (some .boolean) ∈ WS := ws_in (tk_4 (List.mem_of_getElem? (i := 215) rfl)) rfl
theorem l_RL_89 : JLnk RL 89 yX11_redeem cX11_redeem 2 (some .boolean) 1 := ⟨w_932, w_935, w_1, by decide +kernel⟩
theorem w_933 : Cond.instanceMethod yX11_redeem ∈ WS := ws_in (tk_4 (List.mem_of_getElem? (i := 213) rfl)) rfl
theorem w_934 : Cond.selects RX11 yX11_redeem yX11_redeem ∈ WS := ws_in (tk_4 (List.mem_of_getElem? (i := 214) rfl)) rfl
theorem v_RL_89 : JVir RL 89 yX11_redeem cX11_redeem 2 (some .boolean) 1 11 := ⟨l_RL_89, w_933, w_934, TX11, 19, rfl⟩
theorem w_1901 : Cond.methodLink RL 92 yX12_redeem ∈ WS := ws_in (tk_8 (List.mem_of_getElem? (i := 221) rfl)) rfl
theorem w_1904 : Cond.code yX12_redeem cX12_redeem 2 (some .boolean) ∈ WS := ws_in (tk_8 (List.mem_of_getElem? (i := 224) rfl)) rfl
theorem l_RL_92 : JLnk RL 92 yX12_redeem cX12_redeem 2 (some .boolean) 1 := ⟨w_1901, w_1904, w_13, by decide +kernel⟩
theorem w_1902 : Cond.instanceMethod yX12_redeem ∈ WS := ws_in (tk_8 (List.mem_of_getElem? (i := 222) rfl)) rfl
theorem w_1903 : Cond.selects RX12 yX12_redeem yX12_redeem ∈ WS := ws_in (tk_8 (List.mem_of_getElem? (i := 223) rfl)) rfl
theorem v_RL_92 : JVir RL 92 yX12_redeem cX12_redeem 2 (some .boolean) 1 12 := ⟨l_RL_92, w_1902, w_1903, TX12, 52, rfl⟩
theorem w_936 : Cond.methodLink RL 93 yX11_will ∈ WS := ws_in (tk_4 (List.mem_of_getElem? (i := 216) rfl)) rfl
theorem w_939 : Cond.code yX11_will cX11_will 3 (some .int) ∈ WS := ws_in (tk_4 (List.mem_of_getElem? (i := 219) rfl)) rfl
theorem l_RL_93 : JLnk RL 93 yX11_will cX11_will 3 (some .int) 2 := ⟨w_936, w_939, w_1, by decide +kernel⟩
theorem w_937 : Cond.instanceMethod yX11_will ∈ WS := ws_in (tk_4 (List.mem_of_getElem? (i := 217) rfl)) rfl
theorem w_938 : Cond.selects RX11 yX11_will yX11_will ∈ WS := ws_in (tk_4 (List.mem_of_getElem? (i := 218) rfl)) rfl
theorem v_RL_93 : JVir RL 93 yX11_will cX11_will 3 (some .int) 2 11 := ⟨l_RL_93, w_937, w_938, TX11, 19, rfl⟩
theorem w_1905 : Cond.methodLink RL 96 yX12_will ∈ WS := ws_in (tk_8 (List.mem_of_getElem? (i := 225) rfl)) rfl
theorem w_1908 : Cond.code yX12_will cX12_will 5 (some .int) ∈ WS := ws_in (tk_8 (List.mem_of_getElem? (i := 228) rfl)) rfl
theorem l_RL_96 : JLnk RL 96 yX12_will cX12_will 5 (some .int) 2 := ⟨w_1905, w_1908, w_13, by decide +kernel⟩
theorem w_1906 : Cond.instanceMethod yX12_will ∈ WS := ws_in (tk_8 (List.mem_of_getElem? (i := 226) rfl)) rfl
theorem w_1907 : Cond.selects RX12 yX12_will yX12_will ∈ WS := ws_in (tk_8 (List.mem_of_getElem? (i := 227) rfl)) rfl
theorem v_RL_96 : JVir RL 96 yX12_will cX12_will 5 (some .int) 2 12 := ⟨l_RL_96, w_1906, w_1907, TX12, 52, rfl⟩
theorem w_944 : Cond.methodLink RL 97 yX11_undo ∈ WS := ws_in (tk_4 (List.mem_of_getElem? (i := 224) rfl)) rfl
theorem w_947 : Cond.code yX11_undo cX11_undo 2 (some .int) ∈ WS := ws_in (tk_4 (List.mem_of_getElem? (i := 227) rfl)) rfl
theorem l_RL_97 : JLnk RL 97 yX11_undo cX11_undo 2 (some .int) 0 := ⟨w_944, w_947, w_1, by decide +kernel⟩
theorem w_945 : Cond.instanceMethod yX11_undo ∈ WS := ws_in (tk_4 (List.mem_of_getElem? (i := 225) rfl)) rfl
theorem w_946 : Cond.selects RX11 yX11_undo yX11_undo ∈ WS := ws_in (tk_4 (List.mem_of_getElem? (i := 226) rfl)) rfl
theorem v_RL_97 : JVir RL 97 yX11_undo cX11_undo 2 (some .int) 0 11 := ⟨l_RL_97, w_945, w_946, TX11, 19, rfl⟩
theorem w_1865 : Cond.methodLink RL 100 yX12_undo ∈ WS := ws_in (tk_8 (List.mem_of_getElem? (i := 185) rfl)) rfl
theorem w_1868 : Cond.code yX12_undo cX12_undo 2 (some .int) ∈ WS := ws_in (tk_8 (List.mem_of_getElem? (i := 188) rfl)) rfl
theorem l_RL_100 : JLnk RL 100 yX12_undo cX12_undo 2 (some .int) 0 := ⟨w_1865, w_1868, w_13, by decide +kernel⟩
theorem w_1866 : Cond.instanceMethod yX12_undo ∈ WS := ws_in (tk_8 (List.mem_of_getElem? (i := 186) rfl)) rfl
theorem w_1867 : Cond.selects RX12 yX12_undo yX12_undo ∈ WS := ws_in (tk_8 (List.mem_of_getElem? (i := 187) rfl)) rfl
theorem v_RL_100 : JVir RL 100 yX12_undo cX12_undo 2 (some .int) 0 12 := ⟨l_RL_100, w_1866, w_1867, TX12, 52, rfl⟩
theorem w_948 : Cond.methodLink RL 101 yX11_visits ∈ WS := ws_in (tk_4 (List.mem_of_getElem? (i := 228) rfl)) rfl
theorem w_951 : Cond.code yX11_visits cX11_visits 4 (some .int) ∈ WS := ws_in (tk_4 (List.mem_of_getElem? (i := 231) rfl)) rfl
theorem l_RL_101 : JLnk RL 101 yX11_visits cX11_visits 4 (some .int) 1 := ⟨w_948, w_951, w_1, by decide +kernel⟩
theorem w_949 : Cond.instanceMethod yX11_visits ∈ WS := ws_in (tk_4 (List.mem_of_getElem? (i := 229) rfl)) rfl
theorem w_950 : Cond.selects RX11 yX11_visits yX11_visits ∈ WS := ws_in (tk_4 (List.mem_of_getElem? (i := 230) rfl)) rfl
theorem v_RL_101 : JVir RL 101 yX11_visits cX11_visits 4 (some .int) 1 11 := ⟨l_RL_101, w_949, w_950, TX11, 19, rfl⟩
theorem w_1909 : Cond.methodLink RL 104 yX12_visits ∈ WS := ws_in (tk_8 (List.mem_of_getElem? (i := 229) rfl)) rfl
theorem w_1912 : Cond.code yX12_visits cX12_visits 5 (some .int) ∈ WS := ws_in (tk_8 (List.mem_of_getElem? (i := 232) rfl)) rfl
theorem l_RL_104 : JLnk RL 104 yX12_visits cX12_visits 5 (some .int) 1 := ⟨w_1909, w_1912, w_13, by decide +kernel⟩
theorem w_1910 : Cond.instanceMethod yX12_visits ∈ WS := ws_in (tk_8 (List.mem_of_getElem? (i := 230) rfl)) rfl
theorem w_1911 : Cond.selects RX12 yX12_visits yX12_visits ∈ WS := ws_in (tk_8 (List.mem_of_getElem? (i := 231) rfl)) rfl
theorem v_RL_104 : JVir RL 104 yX12_visits cX12_visits 5 (some .int) 1 12 := ⟨l_RL_104, w_1910, w_1911, TX12, 52, rfl⟩
theorem w_958 : Cond.methodLink RL 105 yX11_able ∈ WS := ws_in (tk_4 (List.mem_of_getElem? (i := 238) rfl)) rfl
theorem w_961 : Cond.code yX11_able cX11_able 4 (some .int) ∈ WS := ws_in (tk_5 (List.mem_of_getElem? (i := 1) rfl)) rfl
theorem l_RL_105 : JLnk RL 105 yX11_able cX11_able 4 (some .int) 1 := ⟨w_958, w_961, w_1, by decide +kernel⟩
theorem w_959 : Cond.instanceMethod yX11_able ∈ WS := ws_in (tk_4 (List.mem_of_getElem? (i := 239) rfl)) rfl
theorem w_960 : Cond.selects RX11 yX11_able yX11_able ∈ WS := ws_in (tk_5 (List.mem_of_getElem? (i := 0) rfl)) rfl
theorem v_RL_105 : JVir RL 105 yX11_able cX11_able 4 (some .int) 1 11 := ⟨l_RL_105, w_959, w_960, TX11, 19, rfl⟩
theorem w_1913 : Cond.methodLink RL 108 yX12_able ∈ WS := ws_in (tk_8 (List.mem_of_getElem? (i := 233) rfl)) rfl
theorem w_1916 : Cond.code yX12_able cX12_able 4 (some .int) ∈ WS := ws_in (tk_8 (List.mem_of_getElem? (i := 236) rfl)) rfl
theorem l_RL_108 : JLnk RL 108 yX12_able cX12_able 4 (some .int) 1 := ⟨w_1913, w_1916, w_13, by decide +kernel⟩
theorem w_1914 : Cond.instanceMethod yX12_able ∈ WS := ws_in (tk_8 (List.mem_of_getElem? (i := 234) rfl)) rfl
theorem w_1915 : Cond.selects RX12 yX12_able yX12_able ∈ WS := ws_in (tk_8 (List.mem_of_getElem? (i := 235) rfl)) rfl
theorem v_RL_108 : JVir RL 108 yX12_able cX12_able 4 (some .int) 1 12 := ⟨l_RL_108, w_1914, w_1915, TX12, 52, rfl⟩
theorem w_962 : Cond.methodLink RL 109 yX11_longest ∈ WS := ws_in (tk_5 (List.mem_of_getElem? (i := 2) rfl)) rfl
theorem w_965 : Cond.code yX11_longest cX11_longest 1 (some .int) ∈ WS := ws_in (tk_5 (List.mem_of_getElem? (i := 5) rfl)) rfl
theorem l_RL_109 : JLnk RL 109 yX11_longest cX11_longest 1 (some .int) 0 := ⟨w_962, w_965, w_1, by decide +kernel⟩
theorem w_963 : Cond.instanceMethod yX11_longest ∈ WS := ws_in (tk_5 (List.mem_of_getElem? (i := 3) rfl)) rfl
theorem w_964 : Cond.selects RX11 yX11_longest yX11_longest ∈ WS := ws_in (tk_5 (List.mem_of_getElem? (i := 4) rfl)) rfl
theorem v_RL_109 : JVir RL 109 yX11_longest cX11_longest 1 (some .int) 0 11 := ⟨l_RL_109, w_963, w_964, TX11, 19, rfl⟩
theorem w_1925 : Cond.methodLink RL 112 yX12_longest ∈ WS := ws_in (tk_9 (List.mem_of_getElem? (i := 5) rfl)) rfl
theorem w_1928 : Cond.code yX12_longest cX12_longest 8 (some .int) ∈ WS := ws_in (tk_9 (List.mem_of_getElem? (i := 8) rfl)) rfl
theorem l_RL_112 : JLnk RL 112 yX12_longest cX12_longest 8 (some .int) 0 := ⟨w_1925, w_1928, w_13, by decide +kernel⟩
theorem w_1926 : Cond.instanceMethod yX12_longest ∈ WS := ws_in (tk_9 (List.mem_of_getElem? (i := 6) rfl)) rfl
theorem w_1927 : Cond.selects RX12 yX12_longest yX12_longest ∈ WS := ws_in (tk_9 (List.mem_of_getElem? (i := 7) rfl)) rfl
theorem v_RL_112 : JVir RL 112 yX12_longest cX12_longest 8 (some .int) 0 12 := ⟨l_RL_112, w_1926, w_1927, TX12, 52, rfl⟩
theorem w_1017 : Cond.methodLink RL 113 yX11_longAt ∈ WS := ws_in (tk_5 (List.mem_of_getElem? (i := 57) rfl)) rfl
theorem w_1020 : Cond.code yX11_longAt cX11_longAt 2 (some .int) ∈ WS := ws_in (tk_5 (List.mem_of_getElem? (i := 60) rfl)) rfl
theorem l_RL_113 : JLnk RL 113 yX11_longAt cX11_longAt 2 (some .int) 1 := ⟨w_1017, w_1020, w_1, by decide +kernel⟩
theorem w_1018 : Cond.instanceMethod yX11_longAt ∈ WS := ws_in (tk_5 (List.mem_of_getElem? (i := 58) rfl)) rfl
theorem w_1019 : Cond.selects RX11 yX11_longAt yX11_longAt ∈ WS := ws_in (tk_5 (List.mem_of_getElem? (i := 59) rfl)) rfl
theorem v_RL_113 : JVir RL 113 yX11_longAt cX11_longAt 2 (some .int) 1 11 := ⟨l_RL_113, w_1018, w_1019, TX11, 19, rfl⟩
theorem w_1944 : Cond.methodLink RL 116 yX12_longAt ∈ WS := ws_in (tk_9 (List.mem_of_getElem? (i := 24) rfl)) rfl
theorem w_1947 : Cond.code yX12_longAt cX12_longAt 2 (some .int) ∈ WS := ws_in (tk_9 (List.mem_of_getElem? (i := 27) rfl)) rfl
theorem l_RL_116 : JLnk RL 116 yX12_longAt cX12_longAt 2 (some .int) 1 := ⟨w_1944, w_1947, w_13, by decide +kernel⟩
theorem w_1945 : Cond.instanceMethod yX12_longAt ∈ WS := ws_in (tk_9 (List.mem_of_getElem? (i := 25) rfl)) rfl
theorem w_1946 : Cond.selects RX12 yX12_longAt yX12_longAt ∈ WS := ws_in (tk_9 (List.mem_of_getElem? (i := 26) rfl)) rfl
theorem v_RL_116 : JVir RL 116 yX12_longAt cX12_longAt 2 (some .int) 1 12 := ⟨l_RL_116, w_1945, w_1946, TX12, 52, rfl⟩
theorem w_1021 : Cond.methodLink RL 117 yX11_all ∈ WS := ws_in (tk_5 (List.mem_of_getElem? (i := 61) rfl)) rfl
theorem w_1024 : Cond.code yX11_all cX11_all 1 (some .int) ∈ WS := ws_in (tk_5 (List.mem_of_getElem? (i := 64) rfl)) rfl
theorem l_RL_117 : JLnk RL 117 yX11_all cX11_all 1 (some .int) 0 := ⟨w_1021, w_1024, w_1, by decide +kernel⟩
theorem w_1022 : Cond.instanceMethod yX11_all ∈ WS := ws_in (tk_5 (List.mem_of_getElem? (i := 62) rfl)) rfl
theorem w_1023 : Cond.selects RX11 yX11_all yX11_all ∈ WS := ws_in (tk_5 (List.mem_of_getElem? (i := 63) rfl)) rfl
theorem v_RL_117 : JVir RL 117 yX11_all cX11_all 1 (some .int) 0 11 := ⟨l_RL_117, w_1022, w_1023, TX11, 19, rfl⟩
theorem w_1952 : Cond.methodLink RL 120 yX12_all ∈ WS := ws_in (tk_9 (List.mem_of_getElem? (i := 32) rfl)) rfl
theorem w_1955 : Cond.code yX12_all cX12_all 6 (some .int) ∈ WS := ws_in (tk_9 (List.mem_of_getElem? (i := 35) rfl)) rfl
theorem l_RL_120 : JLnk RL 120 yX12_all cX12_all 6 (some .int) 0 := ⟨w_1952, w_1955, w_13, by decide +kernel⟩
theorem w_1953 : Cond.instanceMethod yX12_all ∈ WS := ws_in (tk_9 (List.mem_of_getElem? (i := 33) rfl)) rfl
theorem w_1954 : Cond.selects RX12 yX12_all yX12_all ∈ WS := ws_in (tk_9 (List.mem_of_getElem? (i := 34) rfl)) rfl
theorem v_RL_120 : JVir RL 120 yX12_all cX12_all 6 (some .int) 0 12 := ⟨l_RL_120, w_1953, w_1954, TX12, 52, rfl⟩
theorem w_1063 : Cond.methodLink RL 121 yX11_allAt ∈ WS := ws_in (tk_5 (List.mem_of_getElem? (i := 103) rfl)) rfl
theorem w_1066 : Cond.code yX11_allAt cX11_allAt 2 (some .int) ∈ WS := ws_in (tk_5 (List.mem_of_getElem? (i := 106) rfl)) rfl
theorem l_RL_121 : JLnk RL 121 yX11_allAt cX11_allAt 2 (some .int) 1 := ⟨w_1063, w_1066, w_1, by decide +kernel⟩
theorem w_1064 : Cond.instanceMethod yX11_allAt ∈ WS := ws_in (tk_5 (List.mem_of_getElem? (i := 104) rfl)) rfl
theorem w_1065 : Cond.selects RX11 yX11_allAt yX11_allAt ∈ WS := ws_in (tk_5 (List.mem_of_getElem? (i := 105) rfl)) rfl
theorem v_RL_121 : JVir RL 121 yX11_allAt cX11_allAt 2 (some .int) 1 11 := ⟨l_RL_121, w_1064, w_1065, TX11, 19, rfl⟩
theorem w_1983 : Cond.methodLink RL 124 yX12_allAt ∈ WS := ws_in (tk_9 (List.mem_of_getElem? (i := 63) rfl)) rfl
theorem w_1986 : Cond.code yX12_allAt cX12_allAt 2 (some .int) ∈ WS := ws_in (tk_9 (List.mem_of_getElem? (i := 66) rfl)) rfl
theorem l_RL_124 : JLnk RL 124 yX12_allAt cX12_allAt 2 (some .int) 1 := ⟨w_1983, w_1986, w_13, by decide +kernel⟩
theorem w_1984 : Cond.instanceMethod yX12_allAt ∈ WS := ws_in (tk_9 (List.mem_of_getElem? (i := 64) rfl)) rfl
theorem w_1985 : Cond.selects RX12 yX12_allAt yX12_allAt ∈ WS := ws_in (tk_9 (List.mem_of_getElem? (i := 65) rfl)) rfl
theorem v_RL_124 : JVir RL 124 yX12_allAt cX12_allAt 2 (some .int) 1 12 := ⟨l_RL_124, w_1984, w_1985, TX12, 52, rfl⟩
theorem w_1067 : Cond.methodLink RL 125 yX11_game ∈ WS := ws_in (tk_5 (List.mem_of_getElem? (i := 107) rfl)) rfl
theorem w_1070 : Cond.code yX11_game cX11_game 3 (some .int) ∈ WS := ws_in (tk_5 (List.mem_of_getElem? (i := 110) rfl)) rfl
theorem l_RL_125 : JLnk RL 125 yX11_game cX11_game 3 (some .int) 2 := ⟨w_1067, w_1070, w_1, by decide +kernel⟩
theorem w_1068 : Cond.instanceMethod yX11_game ∈ WS := ws_in (tk_5 (List.mem_of_getElem? (i := 108) rfl)) rfl
theorem w_1069 : Cond.selects RX11 yX11_game yX11_game ∈ WS := ws_in (tk_5 (List.mem_of_getElem? (i := 109) rfl)) rfl
theorem v_RL_125 : JVir RL 125 yX11_game cX11_game 3 (some .int) 2 11 := ⟨l_RL_125, w_1068, w_1069, TX11, 19, rfl⟩
theorem w_1987 : Cond.methodLink RL 128 yX12_game ∈ WS := ws_in (tk_9 (List.mem_of_getElem? (i := 67) rfl)) rfl
theorem w_1990 : Cond.code yX12_game cX12_game 8 (some .int) ∈ WS := ws_in (tk_9 (List.mem_of_getElem? (i := 70) rfl)) rfl
theorem l_RL_128 : JLnk RL 128 yX12_game cX12_game 8 (some .int) 2 := ⟨w_1987, w_1990, w_13, by decide +kernel⟩
theorem w_1988 : Cond.instanceMethod yX12_game ∈ WS := ws_in (tk_9 (List.mem_of_getElem? (i := 68) rfl)) rfl
theorem w_1989 : Cond.selects RX12 yX12_game yX12_game ∈ WS := ws_in (tk_9 (List.mem_of_getElem? (i := 69) rfl)) rfl
theorem v_RL_128 : JVir RL 128 yX12_game cX12_game 8 (some .int) 2 12 := ⟨l_RL_128, w_1988, w_1989, TX12, 52, rfl⟩
theorem w_1112 : Cond.methodLink RL 129 yX11_first ∈ WS := ws_in (tk_5 (List.mem_of_getElem? (i := 152) rfl)) rfl
theorem w_1115 : Cond.code yX11_first cX11_first 1 (some .int) ∈ WS := ws_in (tk_5 (List.mem_of_getElem? (i := 155) rfl)) rfl
theorem l_RL_129 : JLnk RL 129 yX11_first cX11_first 1 (some .int) 0 := ⟨w_1112, w_1115, w_1, by decide +kernel⟩
theorem w_1113 : Cond.instanceMethod yX11_first ∈ WS := ws_in (tk_5 (List.mem_of_getElem? (i := 153) rfl)) rfl
theorem w_1114 : Cond.selects RX11 yX11_first yX11_first ∈ WS := ws_in (tk_5 (List.mem_of_getElem? (i := 154) rfl)) rfl
theorem v_RL_129 : JVir RL 129 yX11_first cX11_first 1 (some .int) 0 11 := ⟨l_RL_129, w_1113, w_1114, TX11, 19, rfl⟩
theorem w_2018 : Cond.methodLink RL 132 yX12_first ∈ WS := ws_in (tk_9 (List.mem_of_getElem? (i := 98) rfl)) rfl
theorem w_2021 : Cond.code yX12_first cX12_first 1 (some .int) ∈ WS := ws_in (tk_9 (List.mem_of_getElem? (i := 101) rfl)) rfl
theorem l_RL_132 : JLnk RL 132 yX12_first cX12_first 1 (some .int) 0 := ⟨w_2018, w_2021, w_13, by decide +kernel⟩
theorem w_2019 : Cond.instanceMethod yX12_first ∈ WS := ws_in (tk_9 (List.mem_of_getElem? (i := 99) rfl)) rfl
theorem w_2020 : Cond.selects RX12 yX12_first yX12_first ∈ WS := ws_in (tk_9 (List.mem_of_getElem? (i := 100) rfl)) rfl
theorem v_RL_132 : JVir RL 132 yX12_first cX12_first 1 (some .int) 0 12 := ⟨l_RL_132, w_2019, w_2020, TX12, 52, rfl⟩
theorem w_1116 : Cond.methodLink RL 133 yX11_open ∈ WS := ws_in (tk_5 (List.mem_of_getElem? (i := 156) rfl)) rfl
theorem w_1119 : Cond.code yX11_open cX11_open 4 (some .int) ∈ WS := ws_in (tk_5 (List.mem_of_getElem? (i := 159) rfl)) rfl
theorem l_RL_133 : JLnk RL 133 yX11_open cX11_open 4 (some .int) 1 := ⟨w_1116, w_1119, w_1, by decide +kernel⟩
theorem w_1117 : Cond.instanceMethod yX11_open ∈ WS := ws_in (tk_5 (List.mem_of_getElem? (i := 157) rfl)) rfl
theorem w_1118 : Cond.selects RX11 yX11_open yX11_open ∈ WS := ws_in (tk_5 (List.mem_of_getElem? (i := 158) rfl)) rfl
theorem v_RL_133 : JVir RL 133 yX11_open cX11_open 4 (some .int) 1 11 := ⟨l_RL_133, w_1117, w_1118, TX11, 19, rfl⟩
theorem w_1917 : Cond.methodLink RL 136 yX12_open ∈ WS := ws_in (tk_8 (List.mem_of_getElem? (i := 237) rfl)) rfl
theorem w_1920 : Cond.code yX12_open cX12_open 4 (some .int) ∈ WS := ws_in (tk_9 (List.mem_of_getElem? (i := 0) rfl)) rfl
theorem l_RL_136 : JLnk RL 136 yX12_open cX12_open 4 (some .int) 1 := ⟨w_1917, w_1920, w_13, by decide +kernel⟩
theorem w_1918 : Cond.instanceMethod yX12_open ∈ WS := ws_in (tk_8 (List.mem_of_getElem? (i := 238) rfl)) rfl
theorem w_1919 : Cond.selects RX12 yX12_open yX12_open ∈ WS := ws_in (tk_8 (List.mem_of_getElem? (i := 239) rfl)) rfl
theorem v_RL_136 : JVir RL 136 yX12_open cX12_open 4 (some .int) 1 12 := ⟨l_RL_136, w_1918, w_1919, TX12, 52, rfl⟩
theorem w_1121 : Cond.methodLink RL 137 yX11_stretch ∈ WS := ws_in (tk_5 (List.mem_of_getElem? (i := 161) rfl)) rfl
theorem w_1124 : Cond.code yX11_stretch cX11_stretch 4 (some .int) ∈ WS := ws_in (tk_5 (List.mem_of_getElem? (i := 164) rfl)) rfl
theorem l_RL_137 : JLnk RL 137 yX11_stretch cX11_stretch 4 (some .int) 0 := ⟨w_1121, w_1124, w_1, by decide +kernel⟩
theorem w_1122 : Cond.instanceMethod yX11_stretch ∈ WS := ws_in (tk_5 (List.mem_of_getElem? (i := 162) rfl)) rfl
theorem w_1123 : Cond.selects RX11 yX11_stretch yX11_stretch ∈ WS := ws_in (tk_5 (List.mem_of_getElem? (i := 163) rfl)) rfl
theorem v_RL_137 : JVir RL 137 yX11_stretch cX11_stretch 4 (some .int) 0 11 := ⟨l_RL_137, w_1122, w_1123, TX11, 19, rfl⟩
theorem w_2030 : Cond.methodLink RL 140 yX12_stretch ∈ WS := ws_in (tk_9 (List.mem_of_getElem? (i := 110) rfl)) rfl
theorem w_2033 : Cond.code yX12_stretch cX12_stretch 4 (some .int) ∈ WS := ws_in (tk_9 (List.mem_of_getElem? (i := 113) rfl)) rfl
theorem l_RL_140 : JLnk RL 140 yX12_stretch cX12_stretch 4 (some .int) 0 := ⟨w_2030, w_2033, w_13, by decide +kernel⟩
theorem w_2031 : Cond.instanceMethod yX12_stretch ∈ WS := ws_in (tk_9 (List.mem_of_getElem? (i := 111) rfl)) rfl
theorem w_2032 : Cond.selects RX12 yX12_stretch yX12_stretch ∈ WS := ws_in (tk_9 (List.mem_of_getElem? (i := 112) rfl)) rfl
theorem v_RL_140 : JVir RL 140 yX12_stretch cX12_stretch 4 (some .int) 0 12 := ⟨l_RL_140, w_2031, w_2032, TX12, 52, rfl⟩
theorem w_1130 : Cond.methodLink RL 141 yX11_leads ∈ WS := ws_in (tk_5 (List.mem_of_getElem? (i := 170) rfl)) rfl
theorem w_1133 : Cond.code yX11_leads cX11_leads 3 (some .int) ∈ WS := ws_in (tk_5 (List.mem_of_getElem? (i := 173) rfl)) rfl
theorem l_RL_141 : JLnk RL 141 yX11_leads cX11_leads 3 (some .int) 2 := ⟨w_1130, w_1133, w_1, by decide +kernel⟩
theorem w_1131 : Cond.instanceMethod yX11_leads ∈ WS := ws_in (tk_5 (List.mem_of_getElem? (i := 171) rfl)) rfl
theorem w_1132 : Cond.selects RX11 yX11_leads yX11_leads ∈ WS := ws_in (tk_5 (List.mem_of_getElem? (i := 172) rfl)) rfl
theorem v_RL_141 : JVir RL 141 yX11_leads cX11_leads 3 (some .int) 2 11 := ⟨l_RL_141, w_1131, w_1132, TX11, 19, rfl⟩
theorem w_1948 : Cond.methodLink RL 144 yX12_leads ∈ WS := ws_in (tk_9 (List.mem_of_getElem? (i := 28) rfl)) rfl
theorem w_1951 : Cond.code yX12_leads cX12_leads 11 (some .int) ∈ WS := ws_in (tk_9 (List.mem_of_getElem? (i := 31) rfl)) rfl
theorem l_RL_144 : JLnk RL 144 yX12_leads cX12_leads 11 (some .int) 2 := ⟨w_1948, w_1951, w_13, by decide +kernel⟩
theorem w_1949 : Cond.instanceMethod yX12_leads ∈ WS := ws_in (tk_9 (List.mem_of_getElem? (i := 29) rfl)) rfl
theorem w_1950 : Cond.selects RX12 yX12_leads yX12_leads ∈ WS := ws_in (tk_9 (List.mem_of_getElem? (i := 30) rfl)) rfl
theorem v_RL_144 : JVir RL 144 yX12_leads cX12_leads 11 (some .int) 2 12 := ⟨l_RL_144, w_1949, w_1950, TX12, 52, rfl⟩
theorem w_1138 : Cond.methodLink RL 145 yX11_dearest ∈ WS := ws_in (tk_5 (List.mem_of_getElem? (i := 178) rfl)) rfl
theorem w_1141 : Cond.code yX11_dearest cX11_dearest 5 (some .int) ∈ WS := ws_in (tk_5 (List.mem_of_getElem? (i := 181) rfl)) rfl
theorem l_RL_145 : JLnk RL 145 yX11_dearest cX11_dearest 5 (some .int) 0 := ⟨w_1138, w_1141, w_1, by decide +kernel⟩
theorem w_1139 : Cond.instanceMethod yX11_dearest ∈ WS := ws_in (tk_5 (List.mem_of_getElem? (i := 179) rfl)) rfl
theorem w_1140 : Cond.selects RX11 yX11_dearest yX11_dearest ∈ WS := ws_in (tk_5 (List.mem_of_getElem? (i := 180) rfl)) rfl
theorem v_RL_145 : JVir RL 145 yX11_dearest cX11_dearest 5 (some .int) 0 11 := ⟨l_RL_145, w_1139, w_1140, TX11, 19, rfl⟩
theorem w_2034 : Cond.methodLink RL 148 yX12_dearest ∈ WS := ws_in (tk_9 (List.mem_of_getElem? (i := 114) rfl)) rfl
theorem w_2037 : Cond.code yX12_dearest cX12_dearest 3 (some .int) ∈ WS := ws_in (tk_9 (List.mem_of_getElem? (i := 117) rfl)) rfl
theorem l_RL_148 : JLnk RL 148 yX12_dearest cX12_dearest 3 (some .int) 0 := ⟨w_2034, w_2037, w_13, by decide +kernel⟩
theorem w_2035 : Cond.instanceMethod yX12_dearest ∈ WS := ws_in (tk_9 (List.mem_of_getElem? (i := 115) rfl)) rfl
theorem w_2036 : Cond.selects RX12 yX12_dearest yX12_dearest ∈ WS := ws_in (tk_9 (List.mem_of_getElem? (i := 116) rfl)) rfl
theorem v_RL_148 : JVir RL 148 yX12_dearest cX12_dearest 3 (some .int) 0 12 := ⟨l_RL_148, w_2035, w_2036, TX12, 52, rfl⟩
theorem w_1142 : Cond.methodLink RL 149 yX11_counts ∈ WS := ws_in (tk_5 (List.mem_of_getElem? (i := 182) rfl)) rfl
theorem w_1145 : Cond.code yX11_counts cX11_counts 5 (some .int) ∈ WS := ws_in (tk_5 (List.mem_of_getElem? (i := 185) rfl)) rfl
theorem l_RL_149 : JLnk RL 149 yX11_counts cX11_counts 5 (some .int) 2 := ⟨w_1142, w_1145, w_1, by decide +kernel⟩
theorem w_1143 : Cond.instanceMethod yX11_counts ∈ WS := ws_in (tk_5 (List.mem_of_getElem? (i := 183) rfl)) rfl
theorem w_1144 : Cond.selects RX11 yX11_counts yX11_counts ∈ WS := ws_in (tk_5 (List.mem_of_getElem? (i := 184) rfl)) rfl
theorem v_RL_149 : JVir RL 149 yX11_counts cX11_counts 5 (some .int) 2 11 := ⟨l_RL_149, w_1143, w_1144, TX11, 19, rfl⟩
theorem w_2038 : Cond.methodLink RL 152 yX12_counts ∈ WS := ws_in (tk_9 (List.mem_of_getElem? (i := 118) rfl)) rfl
theorem w_2041 : Cond.code yX12_counts cX12_counts 6 (some .int) ∈ WS := ws_in (tk_9 (List.mem_of_getElem? (i := 121) rfl)) rfl
theorem l_RL_152 : JLnk RL 152 yX12_counts cX12_counts 6 (some .int) 2 := ⟨w_2038, w_2041, w_13, by decide +kernel⟩
theorem w_2039 : Cond.instanceMethod yX12_counts ∈ WS := ws_in (tk_9 (List.mem_of_getElem? (i := 119) rfl)) rfl
theorem w_2040 : Cond.selects RX12 yX12_counts yX12_counts ∈ WS := ws_in (tk_9 (List.mem_of_getElem? (i := 120) rfl)) rfl
theorem v_RL_152 : JVir RL 152 yX12_counts cX12_counts 6 (some .int) 2 12 := ⟨l_RL_152, w_2039, w_2040, TX12, 52, rfl⟩
theorem w_1146 : Cond.methodLink RL 153 yX11_greedy ∈ WS := ws_in (tk_5 (List.mem_of_getElem? (i := 186) rfl)) rfl
theorem w_1149 : Cond.code yX11_greedy cX11_greedy 2 (some .int) ∈ WS := ws_in (tk_5 (List.mem_of_getElem? (i := 189) rfl)) rfl
theorem l_RL_153 : JLnk RL 153 yX11_greedy cX11_greedy 2 (some .int) 0 := ⟨w_1146, w_1149, w_1, by decide +kernel⟩
theorem w_1147 : Cond.instanceMethod yX11_greedy ∈ WS := ws_in (tk_5 (List.mem_of_getElem? (i := 187) rfl)) rfl
theorem w_1148 : Cond.selects RX11 yX11_greedy yX11_greedy ∈ WS := ws_in (tk_5 (List.mem_of_getElem? (i := 188) rfl)) rfl
theorem v_RL_153 : JVir RL 153 yX11_greedy cX11_greedy 2 (some .int) 0 11 := ⟨l_RL_153, w_1147, w_1148, TX11, 19, rfl⟩
theorem w_2042 : Cond.methodLink RL 156 yX12_greedy ∈ WS := ws_in (tk_9 (List.mem_of_getElem? (i := 122) rfl)) rfl
theorem w_2045 : Cond.code yX12_greedy cX12_greedy 4 (some .int) ∈ WS := ws_in (tk_9 (List.mem_of_getElem? (i := 125) rfl)) rfl
theorem l_RL_156 : JLnk RL 156 yX12_greedy cX12_greedy 4 (some .int) 0 := ⟨w_2042, w_2045, w_13, by decide +kernel⟩
theorem w_2043 : Cond.instanceMethod yX12_greedy ∈ WS := ws_in (tk_9 (List.mem_of_getElem? (i := 123) rfl)) rfl
theorem w_2044 : Cond.selects RX12 yX12_greedy yX12_greedy ∈ WS := ws_in (tk_9 (List.mem_of_getElem? (i := 124) rfl)) rfl
theorem v_RL_156 : JVir RL 156 yX12_greedy cX12_greedy 4 (some .int) 0 12 := ⟨l_RL_156, w_2043, w_2044, TX12, 52, rfl⟩
theorem w_1155 : Cond.methodLink RL 157 yX11_memory ∈ WS := ws_in (tk_5 (List.mem_of_getElem? (i := 195) rfl)) rfl
theorem w_1158 : Cond.code yX11_memory cX11_memory 1 (some .int) ∈ WS := ws_in (tk_5 (List.mem_of_getElem? (i := 198) rfl)) rfl
theorem l_RL_157 : JLnk RL 157 yX11_memory cX11_memory 1 (some .int) 0 := ⟨w_1155, w_1158, w_1, by decide +kernel⟩
theorem w_1156 : Cond.instanceMethod yX11_memory ∈ WS := ws_in (tk_5 (List.mem_of_getElem? (i := 196) rfl)) rfl
theorem w_1157 : Cond.selects RX11 yX11_memory yX11_memory ∈ WS := ws_in (tk_5 (List.mem_of_getElem? (i := 197) rfl)) rfl
theorem v_RL_157 : JVir RL 157 yX11_memory cX11_memory 1 (some .int) 0 11 := ⟨l_RL_157, w_1156, w_1157, TX11, 19, rfl⟩
theorem w_2062 : Cond.methodLink RL 160 yX12_memory ∈ WS := ws_in (tk_9 (List.mem_of_getElem? (i := 142) rfl)) rfl
theorem w_2065 : Cond.code yX12_memory cX12_memory 2 (some .int) ∈ WS := ws_in (tk_9 (List.mem_of_getElem? (i := 145) rfl)) rfl
theorem l_RL_160 : JLnk RL 160 yX12_memory cX12_memory 2 (some .int) 0 := ⟨w_2062, w_2065, w_13, by decide +kernel⟩
theorem w_2063 : Cond.instanceMethod yX12_memory ∈ WS := ws_in (tk_9 (List.mem_of_getElem? (i := 143) rfl)) rfl
theorem w_2064 : Cond.selects RX12 yX12_memory yX12_memory ∈ WS := ws_in (tk_9 (List.mem_of_getElem? (i := 144) rfl)) rfl
theorem v_RL_160 : JVir RL 160 yX12_memory cX12_memory 2 (some .int) 0 12 := ⟨l_RL_160, w_2063, w_2064, TX12, 52, rfl⟩
theorem w_1196 : Cond.methodLink RL 161 yX11_dealings ∈ WS := ws_in (tk_5 (List.mem_of_getElem? (i := 236) rfl)) rfl
theorem w_1199 : Cond.code yX11_dealings cX11_dealings 1 (some .long) ∈ WS := ws_in (tk_5 (List.mem_of_getElem? (i := 239) rfl)) rfl
theorem l_RL_161 : JLnk RL 161 yX11_dealings cX11_dealings 1 (some .long) 0 := ⟨w_1196, w_1199, w_1, by decide +kernel⟩
theorem w_1197 : Cond.instanceMethod yX11_dealings ∈ WS := ws_in (tk_5 (List.mem_of_getElem? (i := 237) rfl)) rfl
theorem w_1198 : Cond.selects RX11 yX11_dealings yX11_dealings ∈ WS := ws_in (tk_5 (List.mem_of_getElem? (i := 238) rfl)) rfl
theorem v_RL_161 : JVir RL 161 yX11_dealings cX11_dealings 1 (some .long) 0 11 := ⟨l_RL_161, w_1197, w_1198, TX11, 19, rfl⟩
theorem w_2078 : Cond.methodLink RL 165 yX12_dealings ∈ WS := ws_in (tk_9 (List.mem_of_getElem? (i := 158) rfl)) rfl
theorem w_2081 : Cond.code yX12_dealings cX12_dealings 1 (some .long) ∈ WS := ws_in (tk_9 (List.mem_of_getElem? (i := 161) rfl)) rfl
theorem l_RL_165 : JLnk RL 165 yX12_dealings cX12_dealings 1 (some .long) 0 := ⟨w_2078, w_2081, w_13, by decide +kernel⟩
theorem w_2079 : Cond.instanceMethod yX12_dealings ∈ WS := ws_in (tk_9 (List.mem_of_getElem? (i := 159) rfl)) rfl
theorem w_2080 : Cond.selects RX12 yX12_dealings yX12_dealings ∈ WS := ws_in (tk_9 (List.mem_of_getElem? (i := 160) rfl)) rfl
theorem v_RL_165 : JVir RL 165 yX12_dealings cX12_dealings 1 (some .long) 0 12 := ⟨l_RL_165, w_2079, w_2080, TX12, 52, rfl⟩
theorem w_1230 : Cond.methodLink RL 166 yX11_whose ∈ WS := ws_in (tk_6 (List.mem_of_getElem? (i := 30) rfl)) rfl
theorem w_1233 : Cond.code yX11_whose cX11_whose 3 (some .long) ∈ WS := ws_in (tk_6 (List.mem_of_getElem? (i := 33) rfl)) rfl
theorem l_RL_166 : JLnk RL 166 yX11_whose cX11_whose 3 (some .long) 2 := ⟨w_1230, w_1233, w_1, by decide +kernel⟩
theorem w_1231 : Cond.instanceMethod yX11_whose ∈ WS := ws_in (tk_6 (List.mem_of_getElem? (i := 31) rfl)) rfl
theorem w_1232 : Cond.selects RX11 yX11_whose yX11_whose ∈ WS := ws_in (tk_6 (List.mem_of_getElem? (i := 32) rfl)) rfl
theorem v_RL_166 : JVir RL 166 yX11_whose cX11_whose 3 (some .long) 2 11 := ⟨l_RL_166, w_1231, w_1232, TX11, 19, rfl⟩
theorem w_2097 : Cond.methodLink RL 170 yX12_whose ∈ WS := ws_in (tk_9 (List.mem_of_getElem? (i := 177) rfl)) rfl
theorem w_2100 : Cond.code yX12_whose cX12_whose 3 (some .long) ∈ WS := ws_in (tk_9 (List.mem_of_getElem? (i := 180) rfl)) rfl
theorem l_RL_170 : JLnk RL 170 yX12_whose cX12_whose 3 (some .long) 2 := ⟨w_2097, w_2100, w_13, by decide +kernel⟩
theorem w_2098 : Cond.instanceMethod yX12_whose ∈ WS := ws_in (tk_9 (List.mem_of_getElem? (i := 178) rfl)) rfl
theorem w_2099 : Cond.selects RX12 yX12_whose yX12_whose ∈ WS := ws_in (tk_9 (List.mem_of_getElem? (i := 179) rfl)) rfl
theorem v_RL_170 : JVir RL 170 yX12_whose cX12_whose 3 (some .long) 2 12 := ⟨l_RL_170, w_2098, w_2099, TX12, 52, rfl⟩
theorem w_1236 : Cond.methodLink RL 171 yX11_sure ∈ WS := ws_in (tk_6 (List.mem_of_getElem? (i := 36) rfl)) rfl
theorem w_1239 : Cond.code yX11_sure cX11_sure 2 (some .int) ∈ WS := ws_in (tk_6 (List.mem_of_getElem? (i := 39) rfl)) rfl
theorem l_RL_171 : JLnk RL 171 yX11_sure cX11_sure 2 (some .int) 1 := ⟨w_1236, w_1239, w_1, by decide +kernel⟩
theorem w_1237 : Cond.instanceMethod yX11_sure ∈ WS := ws_in (tk_6 (List.mem_of_getElem? (i := 37) rfl)) rfl
theorem w_1238 : Cond.selects RX11 yX11_sure yX11_sure ∈ WS := ws_in (tk_6 (List.mem_of_getElem? (i := 38) rfl)) rfl
theorem v_RL_171 : JVir RL 171 yX11_sure cX11_sure 2 (some .int) 1 11 := ⟨l_RL_171, w_1237, w_1238, TX11, 19, rfl⟩
theorem w_2102 : Cond.methodLink RL 174 yX12_sure ∈ WS := ws_in (tk_9 (List.mem_of_getElem? (i := 182) rfl)) rfl
theorem w_2105 : Cond.code yX12_sure cX12_sure 6 (some .int) ∈ WS := ws_in (tk_9 (List.mem_of_getElem? (i := 185) rfl)) rfl
theorem l_RL_174 : JLnk RL 174 yX12_sure cX12_sure 6 (some .int) 1 := ⟨w_2102, w_2105, w_13, by decide +kernel⟩
theorem w_2103 : Cond.instanceMethod yX12_sure ∈ WS := ws_in (tk_9 (List.mem_of_getElem? (i := 183) rfl)) rfl
theorem w_2104 : Cond.selects RX12 yX12_sure yX12_sure ∈ WS := ws_in (tk_9 (List.mem_of_getElem? (i := 184) rfl)) rfl
theorem v_RL_174 : JVir RL 174 yX12_sure cX12_sure 6 (some .int) 1 12 := ⟨l_RL_174, w_2103, w_2104, TX12, 52, rfl⟩
theorem w_1248 : Cond.methodLink RL 175 yX11_days ∈ WS := ws_in (tk_6 (List.mem_of_getElem? (i := 48) rfl)) rfl
theorem w_1251 : Cond.code yX11_days cX11_days 3 (some .int) ∈ WS := ws_in (tk_6 (List.mem_of_getElem? (i := 51) rfl)) rfl
theorem l_RL_175 : JLnk RL 175 yX11_days cX11_days 3 (some .int) 2 := ⟨w_1248, w_1251, w_1, by decide +kernel⟩
theorem w_1249 : Cond.instanceMethod yX11_days ∈ WS := ws_in (tk_6 (List.mem_of_getElem? (i := 49) rfl)) rfl
theorem w_1250 : Cond.selects RX11 yX11_days yX11_days ∈ WS := ws_in (tk_6 (List.mem_of_getElem? (i := 50) rfl)) rfl
theorem v_RL_175 : JVir RL 175 yX11_days cX11_days 3 (some .int) 2 11 := ⟨l_RL_175, w_1249, w_1250, TX11, 19, rfl⟩
theorem w_2106 : Cond.methodLink RL 178 yX12_days ∈ WS := ws_in (tk_9 (List.mem_of_getElem? (i := 186) rfl)) rfl
theorem w_2109 : Cond.code yX12_days cX12_days 12 (some .int) ∈ WS := ws_in (tk_9 (List.mem_of_getElem? (i := 189) rfl)) rfl
theorem l_RL_178 : JLnk RL 178 yX12_days cX12_days 12 (some .int) 2 := ⟨w_2106, w_2109, w_13, by decide +kernel⟩
theorem w_2107 : Cond.instanceMethod yX12_days ∈ WS := ws_in (tk_9 (List.mem_of_getElem? (i := 187) rfl)) rfl
theorem w_2108 : Cond.selects RX12 yX12_days yX12_days ∈ WS := ws_in (tk_9 (List.mem_of_getElem? (i := 188) rfl)) rfl
theorem v_RL_178 : JVir RL 178 yX12_days cX12_days 12 (some .int) 2 12 := ⟨l_RL_178, w_2107, w_2108, TX12, 52, rfl⟩
theorem w_1282 : Cond.methodLink RL 179 yX11_drawn ∈ WS := ws_in (tk_6 (List.mem_of_getElem? (i := 82) rfl)) rfl
theorem w_1285 : Cond.code yX11_drawn cX11_drawn 2 (some .int) ∈ WS := ws_in (tk_6 (List.mem_of_getElem? (i := 85) rfl)) rfl
theorem l_RL_179 : JLnk RL 179 yX11_drawn cX11_drawn 2 (some .int) 1 := ⟨w_1282, w_1285, w_1, by decide +kernel⟩
theorem w_1283 : Cond.instanceMethod yX11_drawn ∈ WS := ws_in (tk_6 (List.mem_of_getElem? (i := 83) rfl)) rfl
theorem w_1284 : Cond.selects RX11 yX11_drawn yX11_drawn ∈ WS := ws_in (tk_6 (List.mem_of_getElem? (i := 84) rfl)) rfl
theorem v_RL_179 : JVir RL 179 yX11_drawn cX11_drawn 2 (some .int) 1 11 := ⟨l_RL_179, w_1283, w_1284, TX11, 19, rfl⟩
theorem w_2119 : Cond.methodLink RL 182 yX12_drawn ∈ WS := ws_in (tk_9 (List.mem_of_getElem? (i := 199) rfl)) rfl
theorem w_2122 : Cond.code yX12_drawn cX12_drawn 2 (some .int) ∈ WS := ws_in (tk_9 (List.mem_of_getElem? (i := 202) rfl)) rfl
theorem l_RL_182 : JLnk RL 182 yX12_drawn cX12_drawn 2 (some .int) 1 := ⟨w_2119, w_2122, w_13, by decide +kernel⟩
theorem w_2120 : Cond.instanceMethod yX12_drawn ∈ WS := ws_in (tk_9 (List.mem_of_getElem? (i := 200) rfl)) rfl
theorem w_2121 : Cond.selects RX12 yX12_drawn yX12_drawn ∈ WS := ws_in (tk_9 (List.mem_of_getElem? (i := 201) rfl)) rfl
theorem v_RL_182 : JVir RL 182 yX12_drawn cX12_drawn 2 (some .int) 1 12 := ⟨l_RL_182, w_2120, w_2121, TX12, 52, rfl⟩
theorem w_1286 : Cond.methodLink RL 183 yX11_write ∈ WS := ws_in (tk_6 (List.mem_of_getElem? (i := 86) rfl)) rfl
theorem w_1289 : Cond.code yX11_write cX11_write 2 (some .int) ∈ WS := ws_in (tk_6 (List.mem_of_getElem? (i := 89) rfl)) rfl
theorem l_RL_183 : JLnk RL 183 yX11_write cX11_write 2 (some .int) 0 := ⟨w_1286, w_1289, w_1, by decide +kernel⟩
theorem w_1287 : Cond.instanceMethod yX11_write ∈ WS := ws_in (tk_6 (List.mem_of_getElem? (i := 87) rfl)) rfl
theorem w_1288 : Cond.selects RX11 yX11_write yX11_write ∈ WS := ws_in (tk_6 (List.mem_of_getElem? (i := 88) rfl)) rfl
theorem v_RL_183 : JVir RL 183 yX11_write cX11_write 2 (some .int) 0 11 := ⟨l_RL_183, w_1287, w_1288, TX11, 19, rfl⟩
theorem w_2054 : Cond.methodLink RL 186 yX12_write ∈ WS := ws_in (tk_9 (List.mem_of_getElem? (i := 134) rfl)) rfl
theorem w_2057 : Cond.code yX12_write cX12_write 2 (some .int) ∈ WS := ws_in (tk_9 (List.mem_of_getElem? (i := 137) rfl)) rfl
theorem l_RL_186 : JLnk RL 186 yX12_write cX12_write 2 (some .int) 0 := ⟨w_2054, w_2057, w_13, by decide +kernel⟩
theorem w_2055 : Cond.instanceMethod yX12_write ∈ WS := ws_in (tk_9 (List.mem_of_getElem? (i := 135) rfl)) rfl
theorem w_2056 : Cond.selects RX12 yX12_write yX12_write ∈ WS := ws_in (tk_9 (List.mem_of_getElem? (i := 136) rfl)) rfl
theorem v_RL_186 : JVir RL 186 yX12_write cX12_write 2 (some .int) 0 12 := ⟨l_RL_186, w_2055, w_2056, TX12, 52, rfl⟩
theorem w_1299 : Cond.methodLink RL 187 yX11_byteAt ∈ WS := ws_in (tk_6 (List.mem_of_getElem? (i := 99) rfl)) rfl
theorem w_1302 : Cond.code yX11_byteAt cX11_byteAt 2 (some .int) ∈ WS := ws_in (tk_6 (List.mem_of_getElem? (i := 102) rfl)) rfl
theorem l_RL_187 : JLnk RL 187 yX11_byteAt cX11_byteAt 2 (some .int) 1 := ⟨w_1299, w_1302, w_1, by decide +kernel⟩
theorem w_1300 : Cond.instanceMethod yX11_byteAt ∈ WS := ws_in (tk_6 (List.mem_of_getElem? (i := 100) rfl)) rfl
theorem w_1301 : Cond.selects RX11 yX11_byteAt yX11_byteAt ∈ WS := ws_in (tk_6 (List.mem_of_getElem? (i := 101) rfl)) rfl
theorem v_RL_187 : JVir RL 187 yX11_byteAt cX11_byteAt 2 (some .int) 1 11 := ⟨l_RL_187, w_1300, w_1301, TX11, 19, rfl⟩
theorem w_2058 : Cond.methodLink RL 190 yX12_byteAt ∈ WS := ws_in (tk_9 (List.mem_of_getElem? (i := 138) rfl)) rfl
theorem w_2061 : Cond.code yX12_byteAt cX12_byteAt 2 (some .int) ∈ WS := ws_in (tk_9 (List.mem_of_getElem? (i := 141) rfl)) rfl
theorem l_RL_190 : JLnk RL 190 yX12_byteAt cX12_byteAt 2 (some .int) 1 := ⟨w_2058, w_2061, w_13, by decide +kernel⟩
theorem w_2059 : Cond.instanceMethod yX12_byteAt ∈ WS := ws_in (tk_9 (List.mem_of_getElem? (i := 139) rfl)) rfl
theorem w_2060 : Cond.selects RX12 yX12_byteAt yX12_byteAt ∈ WS := ws_in (tk_9 (List.mem_of_getElem? (i := 140) rfl)) rfl
theorem v_RL_190 : JVir RL 190 yX12_byteAt cX12_byteAt 2 (some .int) 1 12 := ⟨l_RL_190, w_2059, w_2060, TX12, 52, rfl⟩
theorem w_1303 : Cond.methodLink RL 191 yX11_gaps ∈ WS := ws_in (tk_6 (List.mem_of_getElem? (i := 103) rfl)) rfl
theorem w_1306 : Cond.code yX11_gaps cX11_gaps 4 (some .int) ∈ WS := ws_in (tk_6 (List.mem_of_getElem? (i := 106) rfl)) rfl
theorem l_RL_191 : JLnk RL 191 yX11_gaps cX11_gaps 4 (some .int) 1 := ⟨w_1303, w_1306, w_1, by decide +kernel⟩
theorem w_1304 : Cond.instanceMethod yX11_gaps ∈ WS := ws_in (tk_6 (List.mem_of_getElem? (i := 104) rfl)) rfl
theorem w_1305 : Cond.selects RX11 yX11_gaps yX11_gaps ∈ WS := ws_in (tk_6 (List.mem_of_getElem? (i := 105) rfl)) rfl
theorem v_RL_191 : JVir RL 191 yX11_gaps cX11_gaps 4 (some .int) 1 11 := ⟨l_RL_191, w_1304, w_1305, TX11, 19, rfl⟩
theorem w_2022 : Cond.methodLink RL 194 yX12_gaps ∈ WS := ws_in (tk_9 (List.mem_of_getElem? (i := 102) rfl)) rfl
theorem w_2025 : Cond.code yX12_gaps cX12_gaps 4 (some .int) ∈ WS := ws_in (tk_9 (List.mem_of_getElem? (i := 105) rfl)) rfl
theorem l_RL_194 : JLnk RL 194 yX12_gaps cX12_gaps 4 (some .int) 1 := ⟨w_2022, w_2025, w_13, by decide +kernel⟩
theorem w_2023 : Cond.instanceMethod yX12_gaps ∈ WS := ws_in (tk_9 (List.mem_of_getElem? (i := 103) rfl)) rfl
theorem w_2024 : Cond.selects RX12 yX12_gaps yX12_gaps ∈ WS := ws_in (tk_9 (List.mem_of_getElem? (i := 104) rfl)) rfl
theorem v_RL_194 : JVir RL 194 yX12_gaps cX12_gaps 4 (some .int) 1 12 := ⟨l_RL_194, w_2023, w_2024, TX12, 52, rfl⟩
theorem w_1307 : Cond.methodLink RL 195 yX11_sentence ∈ WS := ws_in (tk_6 (List.mem_of_getElem? (i := 107) rfl)) rfl
theorem w_1310 : Cond.code yX11_sentence cX11_sentence 1 (some .int) ∈ WS := ws_in (tk_6 (List.mem_of_getElem? (i := 110) rfl)) rfl
theorem l_RL_195 : JLnk RL 195 yX11_sentence cX11_sentence 1 (some .int) 0 := ⟨w_1307, w_1310, w_1, by decide +kernel⟩
theorem w_1308 : Cond.instanceMethod yX11_sentence ∈ WS := ws_in (tk_6 (List.mem_of_getElem? (i := 108) rfl)) rfl
theorem w_1309 : Cond.selects RX11 yX11_sentence yX11_sentence ∈ WS := ws_in (tk_6 (List.mem_of_getElem? (i := 109) rfl)) rfl
theorem v_RL_195 : JVir RL 195 yX11_sentence cX11_sentence 1 (some .int) 0 11 := ⟨l_RL_195, w_1308, w_1309, TX11, 19, rfl⟩
theorem w_2123 : Cond.methodLink RL 198 yX12_sentence ∈ WS := ws_in (tk_9 (List.mem_of_getElem? (i := 203) rfl)) rfl
theorem w_2126 : Cond.code yX12_sentence cX12_sentence 2 (some .int) ∈ WS := ws_in (tk_9 (List.mem_of_getElem? (i := 206) rfl)) rfl
theorem l_RL_198 : JLnk RL 198 yX12_sentence cX12_sentence 2 (some .int) 0 := ⟨w_2123, w_2126, w_13, by decide +kernel⟩
theorem w_2124 : Cond.instanceMethod yX12_sentence ∈ WS := ws_in (tk_9 (List.mem_of_getElem? (i := 204) rfl)) rfl
theorem w_2125 : Cond.selects RX12 yX12_sentence yX12_sentence ∈ WS := ws_in (tk_9 (List.mem_of_getElem? (i := 205) rfl)) rfl
theorem v_RL_198 : JVir RL 198 yX12_sentence cX12_sentence 2 (some .int) 0 12 := ⟨l_RL_198, w_2124, w_2125, TX12, 52, rfl⟩
theorem w_1351 : Cond.methodLink RL 199 yX11_said ∈ WS := ws_in (tk_6 (List.mem_of_getElem? (i := 151) rfl)) rfl
theorem w_1354 : Cond.code yX11_said cX11_said 5 (some .int) ∈ WS := ws_in (tk_6 (List.mem_of_getElem? (i := 154) rfl)) rfl
theorem l_RL_199 : JLnk RL 199 yX11_said cX11_said 5 (some .int) 1 := ⟨w_1351, w_1354, w_1, by decide +kernel⟩
theorem w_1352 : Cond.instanceMethod yX11_said ∈ WS := ws_in (tk_6 (List.mem_of_getElem? (i := 152) rfl)) rfl
theorem w_1353 : Cond.selects RX11 yX11_said yX11_said ∈ WS := ws_in (tk_6 (List.mem_of_getElem? (i := 153) rfl)) rfl
theorem v_RL_199 : JVir RL 199 yX11_said cX11_said 5 (some .int) 1 11 := ⟨l_RL_199, w_1352, w_1353, TX11, 19, rfl⟩
theorem w_2159 : Cond.methodLink RL 202 yX12_said ∈ WS := ws_in (tk_9 (List.mem_of_getElem? (i := 239) rfl)) rfl
theorem w_2162 : Cond.code yX12_said cX12_said 4 (some .int) ∈ WS := ws_in (tk_10 (List.mem_of_getElem? (i := 2) rfl)) rfl
theorem l_RL_202 : JLnk RL 202 yX12_said cX12_said 4 (some .int) 1 := ⟨w_2159, w_2162, w_13, by decide +kernel⟩
theorem w_2160 : Cond.instanceMethod yX12_said ∈ WS := ws_in (tk_10 (List.mem_of_getElem? (i := 0) rfl)) rfl
theorem w_2161 : Cond.selects RX12 yX12_said yX12_said ∈ WS := ws_in (tk_10 (List.mem_of_getElem? (i := 1) rfl)) rfl
theorem v_RL_202 : JVir RL 202 yX12_said cX12_said 4 (some .int) 1 12 := ⟨l_RL_202, w_2160, w_2161, TX12, 52, rfl⟩
theorem w_1378 : Cond.methodLink RL 203 yX11_image ∈ WS := ws_in (tk_6 (List.mem_of_getElem? (i := 178) rfl)) rfl
theorem w_1381 : Cond.code yX11_image cX11_image 3 (some .boolean) ∈ WS := ws_in (tk_6 (List.mem_of_getElem? (i := 181) rfl)) rfl
theorem l_RL_203 : JLnk RL 203 yX11_image cX11_image 3 (some .boolean) 1 := ⟨w_1378, w_1381, w_1, by decide +kernel⟩
theorem w_1379 : Cond.instanceMethod yX11_image ∈ WS := ws_in (tk_6 (List.mem_of_getElem? (i := 179) rfl)) rfl
theorem w_1380 : Cond.selects RX11 yX11_image yX11_image ∈ WS := ws_in (tk_6 (List.mem_of_getElem? (i := 180) rfl)) rfl
theorem v_RL_203 : JVir RL 203 yX11_image cX11_image 3 (some .boolean) 1 11 := ⟨l_RL_203, w_1379, w_1380, TX11, 19, rfl⟩
theorem w_2171 : Cond.methodLink RL 206 yX12_image ∈ WS := ws_in (tk_10 (List.mem_of_getElem? (i := 11) rfl)) rfl
theorem w_2174 : Cond.code yX12_image cX12_image 3 (some .boolean) ∈ WS := ws_in (tk_10 (List.mem_of_getElem? (i := 14) rfl)) rfl
theorem l_RL_206 : JLnk RL 206 yX12_image cX12_image 3 (some .boolean) 1 := ⟨w_2171, w_2174, w_13, by decide +kernel⟩
theorem w_2172 : Cond.instanceMethod yX12_image ∈ WS := ws_in (tk_10 (List.mem_of_getElem? (i := 12) rfl)) rfl
theorem w_2173 : Cond.selects RX12 yX12_image yX12_image ∈ WS := ws_in (tk_10 (List.mem_of_getElem? (i := 13) rfl)) rfl
theorem v_RL_206 : JVir RL 206 yX12_image cX12_image 3 (some .boolean) 1 12 := ⟨l_RL_206, w_2172, w_2173, TX12, 52, rfl⟩
theorem w_1392 : Cond.methodLink RL 207 yX11_restore ∈ WS := ws_in (tk_6 (List.mem_of_getElem? (i := 192) rfl)) rfl
theorem w_1395 : Cond.code yX11_restore cX11_restore 3 (some .boolean) ∈ WS := ws_in (tk_6 (List.mem_of_getElem? (i := 195) rfl)) rfl
theorem l_RL_207 : JLnk RL 207 yX11_restore cX11_restore 3 (some .boolean) 1 := ⟨w_1392, w_1395, w_1, by decide +kernel⟩
theorem w_1393 : Cond.instanceMethod yX11_restore ∈ WS := ws_in (tk_6 (List.mem_of_getElem? (i := 193) rfl)) rfl
theorem w_1394 : Cond.selects RX11 yX11_restore yX11_restore ∈ WS := ws_in (tk_6 (List.mem_of_getElem? (i := 194) rfl)) rfl
theorem v_RL_207 : JVir RL 207 yX11_restore cX11_restore 3 (some .boolean) 1 11 := ⟨l_RL_207, w_1393, w_1394, TX11, 19, rfl⟩
theorem w_2175 : Cond.methodLink RL 210 yX12_restore ∈ WS := ws_in (tk_10 (List.mem_of_getElem? (i := 15) rfl)) rfl
theorem w_2178 : Cond.code yX12_restore cX12_restore 3 (some .boolean) ∈ WS := ws_in (tk_10 (List.mem_of_getElem? (i := 18) rfl)) rfl
theorem l_RL_210 : JLnk RL 210 yX12_restore cX12_restore 3 (some .boolean) 1 := ⟨w_2175, w_2178, w_13, by decide +kernel⟩
theorem w_2176 : Cond.instanceMethod yX12_restore ∈ WS := ws_in (tk_10 (List.mem_of_getElem? (i := 16) rfl)) rfl
theorem w_2177 : Cond.selects RX12 yX12_restore yX12_restore ∈ WS := ws_in (tk_10 (List.mem_of_getElem? (i := 17) rfl)) rfl
theorem v_RL_210 : JVir RL 210 yX12_restore cX12_restore 3 (some .boolean) 1 12 := ⟨l_RL_210, w_2176, w_2177, TX12, 52, rfl⟩
theorem w_1396 : Cond.methodLink RL 211 yX11_count ∈ WS := ws_in (tk_6 (List.mem_of_getElem? (i := 196) rfl)) rfl
theorem w_1399 : Cond.code yX11_count cX11_count 2 (some .int) ∈ WS := ws_in (tk_6 (List.mem_of_getElem? (i := 199) rfl)) rfl
theorem l_RL_211 : JLnk RL 211 yX11_count cX11_count 2 (some .int) 1 := ⟨w_1396, w_1399, w_1, by decide +kernel⟩
theorem w_1397 : Cond.instanceMethod yX11_count ∈ WS := ws_in (tk_6 (List.mem_of_getElem? (i := 197) rfl)) rfl
theorem w_1398 : Cond.selects RX11 yX11_count yX11_count ∈ WS := ws_in (tk_6 (List.mem_of_getElem? (i := 198) rfl)) rfl
theorem v_RL_211 : JVir RL 211 yX11_count cX11_count 2 (some .int) 1 11 := ⟨l_RL_211, w_1397, w_1398, TX11, 19, rfl⟩
theorem w_2179 : Cond.methodLink RL 214 yX12_count ∈ WS := ws_in (tk_10 (List.mem_of_getElem? (i := 19) rfl)) rfl
theorem w_2182 : Cond.code yX12_count cX12_count 5 (some .int) ∈ WS := ws_in (tk_10 (List.mem_of_getElem? (i := 22) rfl)) rfl
theorem l_RL_214 : JLnk RL 214 yX12_count cX12_count 5 (some .int) 1 := ⟨w_2179, w_2182, w_13, by decide +kernel⟩
theorem w_2180 : Cond.instanceMethod yX12_count ∈ WS := ws_in (tk_10 (List.mem_of_getElem? (i := 20) rfl)) rfl
theorem w_2181 : Cond.selects RX12 yX12_count yX12_count ∈ WS := ws_in (tk_10 (List.mem_of_getElem? (i := 21) rfl)) rfl
theorem v_RL_214 : JVir RL 214 yX12_count cX12_count 5 (some .int) 1 12 := ⟨l_RL_214, w_2180, w_2181, TX12, 52, rfl⟩
