/-! ===== the thirty-five cases ===== -/
section LCASE
variable {X : qX} {Gc Gm : qG} {b L : Nat} {xs : Nat → Int32} {Q : State → Prop} {σc σm : qM}
theorem law_0 (C : lC X Gc Gm b L xs) (h : RR σc σm) {i : Nat} (hi : i + 6 ≤ L) (go : ∀ σc σm, RR σc σm → lY X Gc Gm Q σc σm 1305 (lvl Gc Gm b i) []) : lY X Gc Gm Q σc σm 188 (lvl Gc Gm b i) [] := by
  obtain ⟨r, s1, s2, e1, e2, h2⟩ := sim_type h (xs (i + 1)) (xs (i + 2))
  refine l_aload_n C 2 rfl dL_law_188 rfl ?_
  refine l_arg C 1 hi (by decide) (by decide) dL_law_189 dL_law_190 dL_law_191 dL_law_192 dL_law_193 ?_
  refine l_arg C 2 hi (by decide) (by decide) dL_law_194 dL_law_195 dL_law_196 dL_law_197 dL_law_198 ?_
  refine l_callC (st := []) C (zX4_type e1) yi_X4_type ml_RL_13 rfl (by decide) rfl (Nat.le_of_ble_eq_true rfl) dL_law_199 ?_
  refine l_aload_n C 1 rfl dL_law_202 rfl ?_
  refine l_arg C 1 hi (by decide) (by decide) dL_law_203 dL_law_204 dL_law_205 dL_law_206 dL_law_207 ?_
  refine l_arg C 2 hi (by decide) (by decide) dL_law_208 dL_law_209 dL_law_210 dL_law_211 dL_law_212 ?_
  refine l_callM (st := [.int r]) C (zX5_type e2) yi_X5_type ml_RL_17 rfl (by decide) rfl (Nat.le_of_ble_eq_true rfl) dL_law_213 ?_
  exact l_same C 1305 dL_law_216 rfl (go _ _ h2)
theorem law_1 (C : lC X Gc Gm b L xs) (h : RR σc σm) {i : Nat} (hi : i + 6 ≤ L) (go : ∀ σc σm, RR σc σm → lY X Gc Gm Q σc σm 1305 (lvl Gc Gm b i) []) : lY X Gc Gm Q σc σm 221 (lvl Gc Gm b i) [] := by
  obtain ⟨r, s1, s2, e1, e2, h2⟩ := sim_wipe h (xs (i + 1))
  refine l_aload_n C 2 rfl dL_law_221 rfl ?_
  refine l_arg C 1 hi (by decide) (by decide) dL_law_222 dL_law_223 dL_law_224 dL_law_225 dL_law_226 ?_
  refine l_callC (st := []) C (zX4_wipe e1) yi_X4_wipe ml_RL_18 rfl (by decide) rfl (Nat.le_of_ble_eq_true rfl) dL_law_227 ?_
  refine l_aload_n C 1 rfl dL_law_230 rfl ?_
  refine l_arg C 1 hi (by decide) (by decide) dL_law_231 dL_law_232 dL_law_233 dL_law_234 dL_law_235 ?_
  refine l_callM (st := [.int r]) C (zX5_wipe e2) yi_X5_wipe ml_RL_22 rfl (by decide) rfl (Nat.le_of_ble_eq_true rfl) dL_law_236 ?_
  exact l_same C 1305 dL_law_239 rfl (go _ _ h2)
theorem law_2 (C : lC X Gc Gm b L xs) (h : RR σc σm) {i : Nat} (hi : i + 6 ≤ L) (go : ∀ σc σm, RR σc σm → lY X Gc Gm Q σc σm 1305 (lvl Gc Gm b i) []) : lY X Gc Gm Q σc σm 244 (lvl Gc Gm b i) [] := by
  obtain ⟨r, s1, s2, e1, e2, h2⟩ := sim_undo h (xs (i + 1))
  refine l_aload_n C 2 rfl dL_law_244 rfl ?_
  refine l_arg C 1 hi (by decide) (by decide) dL_law_245 dL_law_246 dL_law_247 dL_law_248 dL_law_249 ?_
  refine l_callC (st := []) C (zX4_undo e1) yi_X4_undo ml_RL_23 rfl (by decide) rfl (Nat.le_of_ble_eq_true rfl) dL_law_250 ?_
  refine l_aload_n C 1 rfl dL_law_253 rfl ?_
  refine l_arg C 1 hi (by decide) (by decide) dL_law_254 dL_law_255 dL_law_256 dL_law_257 dL_law_258 ?_
  refine l_callM (st := [.int r]) C (zX5_undo e2) yi_X5_undo ml_RL_26 rfl (by decide) rfl (Nat.le_of_ble_eq_true rfl) dL_law_259 ?_
  exact l_same C 1305 dL_law_262 rfl (go _ _ h2)
theorem law_3 (C : lC X Gc Gm b L xs) (h : RR σc σm) {i : Nat} (hi : i + 6 ≤ L) (go : ∀ σc σm, RR σc σm → lY X Gc Gm Q σc σm 1305 (lvl Gc Gm b i) []) : lY X Gc Gm Q σc σm 267 (lvl Gc Gm b i) [] := by
  obtain ⟨r, s1, s2, e1, e2, h2⟩ := sim_fault h (xs (i + 1))
  refine l_aload_n C 2 rfl dL_law_267 rfl ?_
  refine l_arg C 1 hi (by decide) (by decide) dL_law_268 dL_law_269 dL_law_270 dL_law_271 dL_law_272 ?_
  refine l_callC (st := []) C (zX4_fault e1) yi_X4_fault ml_RL_27 rfl (by decide) rfl (Nat.le_of_ble_eq_true rfl) dL_law_273 ?_
  refine l_aload_n C 1 rfl dL_law_276 rfl ?_
  refine l_arg C 1 hi (by decide) (by decide) dL_law_277 dL_law_278 dL_law_279 dL_law_280 dL_law_281 ?_
  refine l_callM (st := [.int r]) C (zX5_fault e2) yi_X5_fault ml_RL_30 rfl (by decide) rfl (Nat.le_of_ble_eq_true rfl) dL_law_282 ?_
  exact l_same C 1305 dL_law_285 rfl (go _ _ h2)
theorem law_4 (C : lC X Gc Gm b L xs) (h : RR σc σm) {i : Nat} (hi : i + 6 ≤ L) (go : ∀ σc σm, RR σc σm → lY X Gc Gm Q σc σm 1305 (lvl Gc Gm b i) []) : lY X Gc Gm Q σc σm 290 (lvl Gc Gm b i) [] := by
  obtain ⟨r, s1, s2, e1, e2, h2⟩ := sim_leaf h (xs (i + 1)) (xs (i + 2))
  refine l_aload_n C 2 rfl dL_law_290 rfl ?_
  refine l_arg C 1 hi (by decide) (by decide) dL_law_291 dL_law_292 dL_law_293 dL_law_294 dL_law_295 ?_
  refine l_arg C 2 hi (by decide) (by decide) dL_law_296 dL_law_297 dL_law_298 dL_law_299 dL_law_300 ?_
  refine l_callC (st := []) C (zX4_leaf e1) yi_X4_leaf ml_RL_31 rfl (by decide) rfl (Nat.le_of_ble_eq_true rfl) dL_law_301 ?_
  refine l_aload_n C 1 rfl dL_law_304 rfl ?_
  refine l_arg C 1 hi (by decide) (by decide) dL_law_305 dL_law_306 dL_law_307 dL_law_308 dL_law_309 ?_
  refine l_arg C 2 hi (by decide) (by decide) dL_law_310 dL_law_311 dL_law_312 dL_law_313 dL_law_314 ?_
  refine l_callM (st := [.int r]) C (zX5_leaf e2) yi_X5_leaf ml_RL_34 rfl (by decide) rfl (Nat.le_of_ble_eq_true rfl) dL_law_315 ?_
  exact l_same C 1305 dL_law_318 rfl (go _ _ h2)
theorem law_5 (C : lC X Gc Gm b L xs) (h : RR σc σm) {i : Nat} (hi : i + 6 ≤ L) (go : ∀ σc σm, RR σc σm → lY X Gc Gm Q σc σm 1305 (lvl Gc Gm b i) []) : lY X Gc Gm Q σc σm 323 (lvl Gc Gm b i) [] := by
  obtain ⟨r, s1, s2, e1, e2, h2⟩ := sim_rule h (xs (i + 1)) (xs (i + 2))
  refine l_aload_n C 2 rfl dL_law_323 rfl ?_
  refine l_arg C 1 hi (by decide) (by decide) dL_law_324 dL_law_325 dL_law_326 dL_law_327 dL_law_328 ?_
  refine l_arg C 2 hi (by decide) (by decide) dL_law_329 dL_law_330 dL_law_331 dL_law_332 dL_law_333 ?_
  refine l_callC (st := []) C (zX4_rule e1) yi_X4_rule ml_RL_35 rfl (by decide) rfl (Nat.le_of_ble_eq_true rfl) dL_law_334 ?_
  refine l_aload_n C 1 rfl dL_law_337 rfl ?_
  refine l_arg C 1 hi (by decide) (by decide) dL_law_338 dL_law_339 dL_law_340 dL_law_341 dL_law_342 ?_
  refine l_arg C 2 hi (by decide) (by decide) dL_law_343 dL_law_344 dL_law_345 dL_law_346 dL_law_347 ?_
  refine l_callM (st := [.int r]) C (zX5_rule e2) yi_X5_rule ml_RL_38 rfl (by decide) rfl (Nat.le_of_ble_eq_true rfl) dL_law_348 ?_
  exact l_same C 1305 dL_law_351 rfl (go _ _ h2)
theorem law_6 (C : lC X Gc Gm b L xs) (h : RR σc σm) {i : Nat} (hi : i + 6 ≤ L) (go : ∀ σc σm, RR σc σm → lY X Gc Gm Q σc σm 1305 (lvl Gc Gm b i) []) : lY X Gc Gm Q σc σm 356 (lvl Gc Gm b i) [] := by
  obtain ⟨r, s1, s2, e1, e2, h2⟩ := sim_crack h (xs (i + 1)) (xs (i + 2))
  refine l_aload_n C 2 rfl dL_law_356 rfl ?_
  refine l_arg C 1 hi (by decide) (by decide) dL_law_357 dL_law_358 dL_law_359 dL_law_360 dL_law_361 ?_
  refine l_arg C 2 hi (by decide) (by decide) dL_law_362 dL_law_363 dL_law_364 dL_law_365 dL_law_366 ?_
  refine l_callC (st := []) C (zX4_crack e1) yi_X4_crack ml_RL_39 rfl (by decide) rfl (Nat.le_of_ble_eq_true rfl) dL_law_367 ?_
  refine l_aload_n C 1 rfl dL_law_370 rfl ?_
  refine l_arg C 1 hi (by decide) (by decide) dL_law_371 dL_law_372 dL_law_373 dL_law_374 dL_law_375 ?_
  refine l_arg C 2 hi (by decide) (by decide) dL_law_376 dL_law_377 dL_law_378 dL_law_379 dL_law_380 ?_
  refine l_callM (st := [.int r]) C (zX5_crack e2) yi_X5_crack ml_RL_42 rfl (by decide) rfl (Nat.le_of_ble_eq_true rfl) dL_law_381 ?_
  exact l_same C 1305 dL_law_384 rfl (go _ _ h2)
theorem law_7 (C : lC X Gc Gm b L xs) (h : RR σc σm) {i : Nat} (hi : i + 6 ≤ L) (go : ∀ σc σm, RR σc σm → lY X Gc Gm Q σc σm 1305 (lvl Gc Gm b i) []) : lY X Gc Gm Q σc σm 389 (lvl Gc Gm b i) [] := by
  obtain ⟨r, s1, s2, e1, e2, h2⟩ := sim_deed h (xs (i + 1)) (xs (i + 2))
  refine l_aload_n C 2 rfl dL_law_389 rfl ?_
  refine l_arg C 1 hi (by decide) (by decide) dL_law_390 dL_law_391 dL_law_392 dL_law_393 dL_law_394 ?_
  refine l_arg C 2 hi (by decide) (by decide) dL_law_395 dL_law_396 dL_law_397 dL_law_398 dL_law_399 ?_
  refine l_callC (st := []) C (zX4_deed e1) yi_X4_deed ml_RL_43 rfl (by decide) rfl (Nat.le_of_ble_eq_true rfl) dL_law_400 ?_
  refine l_aload_n C 1 rfl dL_law_403 rfl ?_
  refine l_arg C 1 hi (by decide) (by decide) dL_law_404 dL_law_405 dL_law_406 dL_law_407 dL_law_408 ?_
  refine l_arg C 2 hi (by decide) (by decide) dL_law_409 dL_law_410 dL_law_411 dL_law_412 dL_law_413 ?_
  refine l_callM (st := [.int r]) C (zX5_deed e2) yi_X5_deed ml_RL_46 rfl (by decide) rfl (Nat.le_of_ble_eq_true rfl) dL_law_414 ?_
  exact l_same C 1305 dL_law_417 rfl (go _ _ h2)
theorem law_8 (C : lC X Gc Gm b L xs) (h : RR σc σm) {i : Nat} (hi : i + 6 ≤ L) (go : ∀ σc σm, RR σc σm → lY X Gc Gm Q σc σm 1305 (lvl Gc Gm b i) []) : lY X Gc Gm Q σc σm 422 (lvl Gc Gm b i) [] := by
  obtain ⟨r, s1, s2, e1, e2, h2⟩ := sim_back h (xs (i + 1))
  refine l_aload_n C 2 rfl dL_law_422 rfl ?_
  refine l_arg C 1 hi (by decide) (by decide) dL_law_423 dL_law_424 dL_law_425 dL_law_426 dL_law_427 ?_
  refine l_callC (st := []) C (zX4_back e1) yi_X4_back ml_RL_47 rfl (by decide) rfl (Nat.le_of_ble_eq_true rfl) dL_law_428 ?_
  refine l_aload_n C 1 rfl dL_law_431 rfl ?_
  refine l_arg C 1 hi (by decide) (by decide) dL_law_432 dL_law_433 dL_law_434 dL_law_435 dL_law_436 ?_
  refine l_callM (st := [.int r]) C (zX5_back e2) yi_X5_back ml_RL_50 rfl (by decide) rfl (Nat.le_of_ble_eq_true rfl) dL_law_437 ?_
  exact l_same C 1305 dL_law_440 rfl (go _ _ h2)
theorem law_9 (C : lC X Gc Gm b L xs) (h : RR σc σm) {i : Nat} (hi : i + 6 ≤ L) (go : ∀ σc σm, RR σc σm → lY X Gc Gm Q σc σm 1305 (lvl Gc Gm b i) []) : lY X Gc Gm Q σc σm 445 (lvl Gc Gm b i) [] := by
  obtain ⟨r, s1, s2, e1, e2, h2⟩ := sim_set h (xs (i + 1)) (xs (i + 2))
  refine l_aload_n C 2 rfl dL_law_445 rfl ?_
  refine l_arg C 1 hi (by decide) (by decide) dL_law_446 dL_law_447 dL_law_448 dL_law_449 dL_law_450 ?_
  refine l_arg C 2 hi (by decide) (by decide) dL_law_451 dL_law_452 dL_law_453 dL_law_454 dL_law_455 ?_
  refine l_callC (st := []) C (zX4_set e1) yi_X4_set ml_RL_51 rfl (by decide) rfl (Nat.le_of_ble_eq_true rfl) dL_law_456 ?_
  refine l_aload_n C 1 rfl dL_law_459 rfl ?_
  refine l_arg C 1 hi (by decide) (by decide) dL_law_460 dL_law_461 dL_law_462 dL_law_463 dL_law_464 ?_
  refine l_arg C 2 hi (by decide) (by decide) dL_law_465 dL_law_466 dL_law_467 dL_law_468 dL_law_469 ?_
  refine l_callM (st := [.int r]) C (zX5_set e2) yi_X5_set ml_RL_54 rfl (by decide) rfl (Nat.le_of_ble_eq_true rfl) dL_law_470 ?_
  exact l_same C 1305 dL_law_473 rfl (go _ _ h2)
theorem law_10 (C : lC X Gc Gm b L xs) (h : RR σc σm) {i : Nat} (hi : i + 6 ≤ L) (go : ∀ σc σm, RR σc σm → lY X Gc Gm Q σc σm 1305 (lvl Gc Gm b i) []) : lY X Gc Gm Q σc σm 478 (lvl Gc Gm b i) [] := by
  obtain ⟨r, s1, s2, e1, e2, h2⟩ := sim_lies h (xs (i + 1)) (xs (i + 2)) (xs (i + 3))
  refine l_aload_n C 2 rfl dL_law_478 rfl ?_
  refine l_arg C 1 hi (by decide) (by decide) dL_law_479 dL_law_480 dL_law_481 dL_law_482 dL_law_483 ?_
  refine l_arg C 2 hi (by decide) (by decide) dL_law_484 dL_law_485 dL_law_486 dL_law_487 dL_law_488 ?_
  refine l_arg C 3 hi (by decide) (by decide) dL_law_489 dL_law_490 dL_law_491 dL_law_492 dL_law_493 ?_
  refine l_callC (st := []) C (zX4_lies e1) yi_X4_lies ml_RL_55 rfl (by decide) rfl (Nat.le_of_ble_eq_true rfl) dL_law_494 ?_
  refine l_aload_n C 1 rfl dL_law_497 rfl ?_
  refine l_arg C 1 hi (by decide) (by decide) dL_law_498 dL_law_499 dL_law_500 dL_law_501 dL_law_502 ?_
  refine l_arg C 2 hi (by decide) (by decide) dL_law_503 dL_law_504 dL_law_505 dL_law_506 dL_law_507 ?_
  refine l_arg C 3 hi (by decide) (by decide) dL_law_508 dL_law_509 dL_law_510 dL_law_511 dL_law_512 ?_
  refine l_callM (st := [.int r]) C (zX5_lies e2) yi_X5_lies ml_RL_59 rfl (by decide) rfl (Nat.le_of_ble_eq_true rfl) dL_law_513 ?_
  exact l_same C 1305 dL_law_516 rfl (go _ _ h2)
theorem law_11 (C : lC X Gc Gm b L xs) (h : RR σc σm) {i : Nat} (hi : i + 6 ≤ L) (go : ∀ σc σm, RR σc σm → lY X Gc Gm Q σc σm 1305 (lvl Gc Gm b i) []) : lY X Gc Gm Q σc σm 521 (lvl Gc Gm b i) [] := by
  obtain ⟨r, s1, s2, e1, e2, h2⟩ := sim_reading h (xs (i + 1)) (xs (i + 2))
  refine l_aload_n C 2 rfl dL_law_521 rfl ?_
  refine l_arg C 1 hi (by decide) (by decide) dL_law_522 dL_law_523 dL_law_524 dL_law_525 dL_law_526 ?_
  refine l_arg C 2 hi (by decide) (by decide) dL_law_527 dL_law_528 dL_law_529 dL_law_530 dL_law_531 ?_
  refine l_callC (st := []) C (zX4_reading e1) yi_X4_reading ml_RL_60 rfl (by decide) rfl (Nat.le_of_ble_eq_true rfl) dL_law_532 ?_
  refine l_aload_n C 1 rfl dL_law_535 rfl ?_
  refine l_arg C 1 hi (by decide) (by decide) dL_law_536 dL_law_537 dL_law_538 dL_law_539 dL_law_540 ?_
  refine l_arg C 2 hi (by decide) (by decide) dL_law_541 dL_law_542 dL_law_543 dL_law_544 dL_law_545 ?_
  refine l_callM (st := [.int r]) C (zX5_reading e2) yi_X5_reading ml_RL_63 rfl (by decide) rfl (Nat.le_of_ble_eq_true rfl) dL_law_546 ?_
  exact l_same C 1305 dL_law_549 rfl (go _ _ h2)
theorem law_12 (C : lC X Gc Gm b L xs) (h : RR σc σm) {i : Nat} (hi : i + 6 ≤ L) (go : ∀ σc σm, RR σc σm → lY X Gc Gm Q σc σm 1305 (lvl Gc Gm b i) []) : lY X Gc Gm Q σc σm 554 (lvl Gc Gm b i) [] := by
  obtain ⟨r, s1, s2, e1, e2, h2⟩ := sim_day h (xs (i + 1))
  refine l_aload_n C 2 rfl dL_law_554 rfl ?_
  refine l_arg C 1 hi (by decide) (by decide) dL_law_555 dL_law_556 dL_law_557 dL_law_558 dL_law_559 ?_
  refine l_callC (st := []) C (zX4_day e1) yi_X4_day ml_RL_64 rfl (by decide) rfl (Nat.le_of_ble_eq_true rfl) dL_law_560 ?_
  refine l_aload_n C 1 rfl dL_law_563 rfl ?_
  refine l_arg C 1 hi (by decide) (by decide) dL_law_564 dL_law_565 dL_law_566 dL_law_567 dL_law_568 ?_
  refine l_callM (st := [.int r]) C (zX5_day e2) yi_X5_day ml_RL_67 rfl (by decide) rfl (Nat.le_of_ble_eq_true rfl) dL_law_569 ?_
  exact l_same C 1305 dL_law_572 rfl (go _ _ h2)
theorem law_13 (C : lC X Gc Gm b L xs) (h : RR σc σm) {i : Nat} (hi : i + 6 ≤ L) (go : ∀ σc σm, RR σc σm → lY X Gc Gm Q σc σm 1305 (lvl Gc Gm b i) []) : lY X Gc Gm Q σc σm 577 (lvl Gc Gm b i) [] := by
  obtain ⟨r, s1, s2, e1, e2, h2⟩ := sim_broken h (xs (i + 1))
  refine l_aload_n C 2 rfl dL_law_577 rfl ?_
  refine l_arg C 1 hi (by decide) (by decide) dL_law_578 dL_law_579 dL_law_580 dL_law_581 dL_law_582 ?_
  refine l_callC (st := []) C (zX4_broken e1) yi_X4_broken ml_RL_68 rfl (by decide) rfl (Nat.le_of_ble_eq_true rfl) dL_law_583 ?_
  refine l_aload_n C 1 rfl dL_law_586 rfl ?_
  refine l_arg C 1 hi (by decide) (by decide) dL_law_587 dL_law_588 dL_law_589 dL_law_590 dL_law_591 ?_
  refine l_callM (st := [.int r]) C (zX5_broken e2) yi_X5_broken ml_RL_71 rfl (by decide) rfl (Nat.le_of_ble_eq_true rfl) dL_law_592 ?_
  exact l_same C 1305 dL_law_595 rfl (go _ _ h2)
theorem law_14 (C : lC X Gc Gm b L xs) (h : RR σc σm) {i : Nat} (hi : i + 6 ≤ L) (go : ∀ σc σm, RR σc σm → lY X Gc Gm Q σc σm 1305 (lvl Gc Gm b i) []) : lY X Gc Gm Q σc σm 600 (lvl Gc Gm b i) [] := by
  obtain ⟨r, s1, s2, e1, e2, h2⟩ := sim_free h (xs (i + 1))
  refine l_aload_n C 2 rfl dL_law_600 rfl ?_
  refine l_arg C 1 hi (by decide) (by decide) dL_law_601 dL_law_602 dL_law_603 dL_law_604 dL_law_605 ?_
  refine l_callC (st := []) C (zX4_free e1) yi_X4_free ml_RL_72 rfl (by decide) rfl (Nat.le_of_ble_eq_true rfl) dL_law_606 ?_
  refine l_aload_n C 1 rfl dL_law_609 rfl ?_
  refine l_arg C 1 hi (by decide) (by decide) dL_law_610 dL_law_611 dL_law_612 dL_law_613 dL_law_614 ?_
  refine l_callM (st := [.int r]) C (zX5_free e2) yi_X5_free ml_RL_75 rfl (by decide) rfl (Nat.le_of_ble_eq_true rfl) dL_law_615 ?_
  exact l_same C 1305 dL_law_618 rfl (go _ _ h2)
theorem law_15 (C : lC X Gc Gm b L xs) (h : RR σc σm) {i : Nat} (hi : i + 6 ≤ L) (go : ∀ σc σm, RR σc σm → lY X Gc Gm Q σc σm 1305 (lvl Gc Gm b i) []) : lY X Gc Gm Q σc σm 623 (lvl Gc Gm b i) [] := by
  obtain ⟨r, s1, s2, e1, e2, h2⟩ := sim_clash h (xs (i + 1))
  refine l_aload_n C 2 rfl dL_law_623 rfl ?_
  refine l_arg C 1 hi (by decide) (by decide) dL_law_624 dL_law_625 dL_law_626 dL_law_627 dL_law_628 ?_
  refine l_callC (st := []) C (zX4_clash e1) yi_X4_clash ml_RL_76 rfl (by decide) rfl (Nat.le_of_ble_eq_true rfl) dL_law_629 ?_
  refine l_aload_n C 1 rfl dL_law_632 rfl ?_
  refine l_arg C 1 hi (by decide) (by decide) dL_law_633 dL_law_634 dL_law_635 dL_law_636 dL_law_637 ?_
  refine l_callM (st := [.int r]) C (zX5_clash e2) yi_X5_clash ml_RL_79 rfl (by decide) rfl (Nat.le_of_ble_eq_true rfl) dL_law_638 ?_
  exact l_same C 1305 dL_law_641 rfl (go _ _ h2)
theorem law_16 (C : lC X Gc Gm b L xs) (h : RR σc σm) {i : Nat} (hi : i + 6 ≤ L) (go : ∀ σc σm, RR σc σm → lY X Gc Gm Q σc σm 1305 (lvl Gc Gm b i) []) : lY X Gc Gm Q σc σm 646 (lvl Gc Gm b i) [] := by
  obtain ⟨r, s1, s2, e1, e2, h2⟩ := sim_pour h (xs (i + 1))
  refine l_aload_n C 2 rfl dL_law_646 rfl ?_
  refine l_arg C 1 hi (by decide) (by decide) dL_law_647 dL_law_648 dL_law_649 dL_law_650 dL_law_651 ?_
  refine l_callC (st := []) C (zX4_pour e1) yi_X4_pour ml_RL_80 rfl (by decide) rfl (Nat.le_of_ble_eq_true rfl) dL_law_652 ?_
  refine l_aload_n C 1 rfl dL_law_655 rfl ?_
  refine l_arg C 1 hi (by decide) (by decide) dL_law_656 dL_law_657 dL_law_658 dL_law_659 dL_law_660 ?_
  refine l_callM (st := [.int r]) C (zX5_pour e2) yi_X5_pour ml_RL_83 rfl (by decide) rfl (Nat.le_of_ble_eq_true rfl) dL_law_661 ?_
  exact l_same C 1305 dL_law_664 rfl (go _ _ h2)
theorem law_17 (C : lC X Gc Gm b L xs) (h : RR σc σm) {i : Nat} (hi : i + 6 ≤ L) (go : ∀ σc σm, RR σc σm → lY X Gc Gm Q σc σm 1305 (lvl Gc Gm b i) []) : lY X Gc Gm Q σc σm 669 (lvl Gc Gm b i) [] := by
  obtain ⟨r, s1, s2, e1, e2, h2⟩ := sim_strain h (xs (i + 1)) (xs (i + 2)) (xs (i + 3)) (xs (i + 4))
  refine l_aload_n C 2 rfl dL_law_669 rfl ?_
  refine l_arg C 1 hi (by decide) (by decide) dL_law_670 dL_law_671 dL_law_672 dL_law_673 dL_law_674 ?_
  refine l_arg C 2 hi (by decide) (by decide) dL_law_675 dL_law_676 dL_law_677 dL_law_678 dL_law_679 ?_
  refine l_arg C 3 hi (by decide) (by decide) dL_law_680 dL_law_681 dL_law_682 dL_law_683 dL_law_684 ?_
  refine l_arg C 4 hi (by decide) (by decide) dL_law_685 dL_law_686 dL_law_687 dL_law_688 dL_law_689 ?_
  refine l_callC (st := []) C (zX4_strain e1) yi_X4_strain ml_RL_84 rfl (by decide) rfl (Nat.le_of_ble_eq_true rfl) dL_law_690 ?_
  refine l_aload_n C 1 rfl dL_law_693 rfl ?_
  refine l_arg C 1 hi (by decide) (by decide) dL_law_694 dL_law_695 dL_law_696 dL_law_697 dL_law_698 ?_
  refine l_arg C 2 hi (by decide) (by decide) dL_law_699 dL_law_700 dL_law_701 dL_law_702 dL_law_703 ?_
  refine l_arg C 3 hi (by decide) (by decide) dL_law_704 dL_law_705 dL_law_706 dL_law_707 dL_law_708 ?_
  refine l_arg C 4 hi (by decide) (by decide) dL_law_709 dL_law_710 dL_law_711 dL_law_712 dL_law_713 ?_
  refine l_callM (st := [.int r]) C (zX5_strain e2) yi_X5_strain ml_RL_88 rfl (by decide) rfl (Nat.le_of_ble_eq_true rfl) dL_law_714 ?_
  exact l_same C 1305 dL_law_717 rfl (go _ _ h2)
theorem law_18 (C : lC X Gc Gm b L xs) (h : RR σc σm) {i : Nat} (hi : i + 6 ≤ L) (go : ∀ σc σm, RR σc σm → lY X Gc Gm Q σc σm 1305 (lvl Gc Gm b i) []) : lY X Gc Gm Q σc σm 722 (lvl Gc Gm b i) [] := by
  obtain ⟨r, s1, s2, e1, e2, h2⟩ := sim_strike h (xs (i + 1)) (xs (i + 2)) (xs (i + 3))
  refine l_aload_n C 2 rfl dL_law_722 rfl ?_
  refine l_arg C 1 hi (by decide) (by decide) dL_law_723 dL_law_724 dL_law_725 dL_law_726 dL_law_727 ?_
  refine l_arg C 2 hi (by decide) (by decide) dL_law_728 dL_law_729 dL_law_730 dL_law_731 dL_law_732 ?_
  refine l_arg C 3 hi (by decide) (by decide) dL_law_733 dL_law_734 dL_law_735 dL_law_736 dL_law_737 ?_
  refine l_callC (st := []) C (zX4_strike e1) yi_X4_strike ml_RL_89 rfl (by decide) rfl (Nat.le_of_ble_eq_true rfl) dL_law_738 ?_
  refine l_aload_n C 1 rfl dL_law_741 rfl ?_
  refine l_arg C 1 hi (by decide) (by decide) dL_law_742 dL_law_743 dL_law_744 dL_law_745 dL_law_746 ?_
  refine l_arg C 2 hi (by decide) (by decide) dL_law_747 dL_law_748 dL_law_749 dL_law_750 dL_law_751 ?_
  refine l_arg C 3 hi (by decide) (by decide) dL_law_752 dL_law_753 dL_law_754 dL_law_755 dL_law_756 ?_
  refine l_callM (st := [.int r]) C (zX5_strike e2) yi_X5_strike ml_RL_92 rfl (by decide) rfl (Nat.le_of_ble_eq_true rfl) dL_law_757 ?_
  exact l_same C 1305 dL_law_760 rfl (go _ _ h2)
theorem law_19 (C : lC X Gc Gm b L xs) (h : RR σc σm) {i : Nat} (hi : i + 6 ≤ L) (go : ∀ σc σm, RR σc σm → lY X Gc Gm Q σc σm 1305 (lvl Gc Gm b i) []) : lY X Gc Gm Q σc σm 765 (lvl Gc Gm b i) [] := by
  obtain ⟨r, s1, s2, e1, e2, h2⟩ := sim_place h (xs (i + 1)) (xs (i + 2))
  refine l_aload_n C 2 rfl dL_law_765 rfl ?_
  refine l_arg C 1 hi (by decide) (by decide) dL_law_766 dL_law_767 dL_law_768 dL_law_769 dL_law_770 ?_
  refine l_arg C 2 hi (by decide) (by decide) dL_law_771 dL_law_772 dL_law_773 dL_law_774 dL_law_775 ?_
  refine l_callC (st := []) C (zX4_place e1) yi_X4_place ml_RL_93 rfl (by decide) rfl (Nat.le_of_ble_eq_true rfl) dL_law_776 ?_
  refine l_aload_n C 1 rfl dL_law_779 rfl ?_
  refine l_arg C 1 hi (by decide) (by decide) dL_law_780 dL_law_781 dL_law_782 dL_law_783 dL_law_784 ?_
  refine l_arg C 2 hi (by decide) (by decide) dL_law_785 dL_law_786 dL_law_787 dL_law_788 dL_law_789 ?_
  refine l_callM (st := [.int r]) C (zX5_place e2) yi_X5_place ml_RL_96 rfl (by decide) rfl (Nat.le_of_ble_eq_true rfl) dL_law_790 ?_
  exact l_same C 1305 dL_law_793 rfl (go _ _ h2)
theorem law_20 (C : lC X Gc Gm b L xs) (h : RR σc σm) {i : Nat} (hi : i + 6 ≤ L) (go : ∀ σc σm, RR σc σm → lY X Gc Gm Q σc σm 1305 (lvl Gc Gm b i) []) : lY X Gc Gm Q σc σm 798 (lvl Gc Gm b i) [] := by
  obtain ⟨r, s1, s2, e1, e2, h2⟩ := sim_sides h (xs (i + 1)) (xs (i + 2))
  refine l_aload_n C 2 rfl dL_law_798 rfl ?_
  refine l_arg C 1 hi (by decide) (by decide) dL_law_799 dL_law_800 dL_law_801 dL_law_802 dL_law_803 ?_
  refine l_arg C 2 hi (by decide) (by decide) dL_law_804 dL_law_805 dL_law_806 dL_law_807 dL_law_808 ?_
  refine l_callC (st := []) C (zX4_sides e1) yi_X4_sides ml_RL_97 rfl (by decide) rfl (Nat.le_of_ble_eq_true rfl) dL_law_809 ?_
  refine l_aload_n C 1 rfl dL_law_812 rfl ?_
  refine l_arg C 1 hi (by decide) (by decide) dL_law_813 dL_law_814 dL_law_815 dL_law_816 dL_law_817 ?_
  refine l_arg C 2 hi (by decide) (by decide) dL_law_818 dL_law_819 dL_law_820 dL_law_821 dL_law_822 ?_
  refine l_callM (st := [.int r]) C (zX5_sides e2) yi_X5_sides ml_RL_100 rfl (by decide) rfl (Nat.le_of_ble_eq_true rfl) dL_law_823 ?_
  exact l_same C 1305 dL_law_826 rfl (go _ _ h2)
theorem law_21 (C : lC X Gc Gm b L xs) (h : RR σc σm) {i : Nat} (hi : i + 6 ≤ L) (go : ∀ σc σm, RR σc σm → lY X Gc Gm Q σc σm 1305 (lvl Gc Gm b i) []) : lY X Gc Gm Q σc σm 831 (lvl Gc Gm b i) [] := by
  obtain ⟨r, s1, s2, e1, e2, h2⟩ := sim_read h (xs (i + 1)) (xs (i + 2))
  refine l_aload_n C 2 rfl dL_law_831 rfl ?_
  refine l_arg C 1 hi (by decide) (by decide) dL_law_832 dL_law_833 dL_law_834 dL_law_835 dL_law_836 ?_
  refine l_arg C 2 hi (by decide) (by decide) dL_law_837 dL_law_838 dL_law_839 dL_law_840 dL_law_841 ?_
  refine l_callC (st := []) C (zX4_read e1) yi_X4_read ml_RL_101 rfl (by decide) rfl (Nat.le_of_ble_eq_true rfl) dL_law_842 ?_
  refine l_aload_n C 1 rfl dL_law_845 rfl ?_
  refine l_arg C 1 hi (by decide) (by decide) dL_law_846 dL_law_847 dL_law_848 dL_law_849 dL_law_850 ?_
  refine l_arg C 2 hi (by decide) (by decide) dL_law_851 dL_law_852 dL_law_853 dL_law_854 dL_law_855 ?_
  refine l_callM (st := [.int r]) C (zX5_read e2) yi_X5_read ml_RL_104 rfl (by decide) rfl (Nat.le_of_ble_eq_true rfl) dL_law_856 ?_
  exact l_same C 1305 dL_law_859 rfl (go _ _ h2)
theorem law_22 (C : lC X Gc Gm b L xs) (h : RR σc σm) {i : Nat} (hi : i + 6 ≤ L) (go : ∀ σc σm, RR σc σm → lY X Gc Gm Q σc σm 1305 (lvl Gc Gm b i) []) : lY X Gc Gm Q σc σm 864 (lvl Gc Gm b i) [] := by
  obtain ⟨r, s1, s2, e1, e2, h2⟩ := sim_forget h 
  refine l_aload_n C 2 rfl dL_law_864 rfl ?_
  refine l_callC (st := []) C (zX4_forget e1) yi_X4_forget ml_RL_105 rfl (by decide) rfl (Nat.le_of_ble_eq_true rfl) dL_law_865 ?_
  refine l_aload_n C 1 rfl dL_law_868 rfl ?_
  refine l_callM (st := [.int r]) C (zX5_forget e2) yi_X5_forget ml_RL_109 rfl (by decide) rfl (Nat.le_of_ble_eq_true rfl) dL_law_869 ?_
  exact l_same C 1305 dL_law_872 rfl (go _ _ h2)
theorem law_23 (C : lC X Gc Gm b L xs) (h : RR σc σm) {i : Nat} (hi : i + 6 ≤ L) (go : ∀ σc σm, RR σc σm → lY X Gc Gm Q σc σm 1305 (lvl Gc Gm b i) []) : lY X Gc Gm Q σc σm 877 (lvl Gc Gm b i) [] := by
  obtain ⟨r, s1, s2, e1, e2, h2⟩ := sim_take h (xs (i + 1))
  refine l_aload_n C 2 rfl dL_law_877 rfl ?_
  refine l_arg C 1 hi (by decide) (by decide) dL_law_878 dL_law_879 dL_law_880 dL_law_881 dL_law_882 ?_
  refine l_callC (st := []) C (zX4_take e1) yi_X4_take ml_RL_110 rfl (by decide) rfl (Nat.le_of_ble_eq_true rfl) dL_law_883 ?_
  refine l_aload_n C 1 rfl dL_law_886 rfl ?_
  refine l_arg C 1 hi (by decide) (by decide) dL_law_887 dL_law_888 dL_law_889 dL_law_890 dL_law_891 ?_
  refine l_callM (st := [.int r]) C (zX5_take e2) yi_X5_take ml_RL_113 rfl (by decide) rfl (Nat.le_of_ble_eq_true rfl) dL_law_892 ?_
  exact l_same C 1305 dL_law_895 rfl (go _ _ h2)
theorem law_24 (C : lC X Gc Gm b L xs) (h : RR σc σm) {i : Nat} (hi : i + 6 ≤ L) (go : ∀ σc σm, RR σc σm → lY X Gc Gm Q σc σm 1305 (lvl Gc Gm b i) []) : lY X Gc Gm Q σc σm 900 (lvl Gc Gm b i) [] := by
  obtain ⟨r, s1, s2, e1, e2, h2⟩ := sim_fits h (xs (i + 1))
  refine l_aload_n C 2 rfl dL_law_900 rfl ?_
  refine l_arg C 1 hi (by decide) (by decide) dL_law_901 dL_law_902 dL_law_903 dL_law_904 dL_law_905 ?_
  refine l_callC (st := []) C (zX4_fits e1) yi_X4_fits ml_RL_114 rfl (by decide) rfl (Nat.le_of_ble_eq_true rfl) dL_law_906 ?_
  refine l_aload_n C 1 rfl dL_law_909 rfl ?_
  refine l_arg C 1 hi (by decide) (by decide) dL_law_910 dL_law_911 dL_law_912 dL_law_913 dL_law_914 ?_
  refine l_callM (st := [.int r]) C (zX5_fits e2) yi_X5_fits ml_RL_117 rfl (by decide) rfl (Nat.le_of_ble_eq_true rfl) dL_law_915 ?_
  exact l_same C 1305 dL_law_918 rfl (go _ _ h2)
theorem law_25 (C : lC X Gc Gm b L xs) (h : RR σc σm) {i : Nat} (hi : i + 6 ≤ L) (go : ∀ σc σm, RR σc σm → lY X Gc Gm Q σc σm 1305 (lvl Gc Gm b i) []) : lY X Gc Gm Q σc σm 923 (lvl Gc Gm b i) [] := by
  obtain ⟨r, s1, s2, e1, e2, h2⟩ := sim_sinks h (xs (i + 1)) (xs (i + 2)) (xs (i + 3)) (xs (i + 4))
  refine l_aload_n C 2 rfl dL_law_923 rfl ?_
  refine l_arg C 1 hi (by decide) (by decide) dL_law_924 dL_law_925 dL_law_926 dL_law_927 dL_law_928 ?_
  refine l_arg C 2 hi (by decide) (by decide) dL_law_929 dL_law_930 dL_law_931 dL_law_932 dL_law_933 ?_
  refine l_arg C 3 hi (by decide) (by decide) dL_law_934 dL_law_935 dL_law_936 dL_law_937 dL_law_938 ?_
  refine l_arg C 4 hi (by decide) (by decide) dL_law_939 dL_law_940 dL_law_941 dL_law_942 dL_law_943 ?_
  refine l_callC (st := []) C (zX4_sinks e1) yi_X4_sinks ml_RL_118 rfl (by decide) rfl (Nat.le_of_ble_eq_true rfl) dL_law_944 ?_
  refine l_aload_n C 1 rfl dL_law_947 rfl ?_
  refine l_arg C 1 hi (by decide) (by decide) dL_law_948 dL_law_949 dL_law_950 dL_law_951 dL_law_952 ?_
  refine l_arg C 2 hi (by decide) (by decide) dL_law_953 dL_law_954 dL_law_955 dL_law_956 dL_law_957 ?_
  refine l_arg C 3 hi (by decide) (by decide) dL_law_958 dL_law_959 dL_law_960 dL_law_961 dL_law_962 ?_
  refine l_arg C 4 hi (by decide) (by decide) dL_law_963 dL_law_964 dL_law_965 dL_law_966 dL_law_967 ?_
  refine l_callM (st := [.long r]) C (zX5_sinks e2) yi_X5_sinks ml_RL_122 rfl (by decide) rfl (Nat.le_of_ble_eq_true rfl) dL_law_968 ?_
  exact l_sameL C 1305 dL_law_971 dL_law_972 rfl (go _ _ h2)
theorem law_26 (C : lC X Gc Gm b L xs) (h : RR σc σm) {i : Nat} (hi : i + 6 ≤ L) (go : ∀ σc σm, RR σc σm → lY X Gc Gm Q σc σm 1305 (lvl Gc Gm b i) []) : lY X Gc Gm Q σc σm 977 (lvl Gc Gm b i) [] := by
  obtain ⟨r, s1, s2, e1, e2, h2⟩ := sim_mornings h (xs (i + 1)) (xs (i + 2)) (xs (i + 3))
  refine l_aload_n C 2 rfl dL_law_977 rfl ?_
  refine l_arg C 1 hi (by decide) (by decide) dL_law_978 dL_law_979 dL_law_980 dL_law_981 dL_law_982 ?_
  refine l_arg C 2 hi (by decide) (by decide) dL_law_983 dL_law_984 dL_law_985 dL_law_986 dL_law_987 ?_
  refine l_arg C 3 hi (by decide) (by decide) dL_law_988 dL_law_989 dL_law_990 dL_law_991 dL_law_992 ?_
  refine l_callC (st := []) C (zX4_mornings e1) yi_X4_mornings ml_RL_123 rfl (by decide) rfl (Nat.le_of_ble_eq_true rfl) dL_law_993 ?_
  refine l_aload_n C 1 rfl dL_law_996 rfl ?_
  refine l_arg C 1 hi (by decide) (by decide) dL_law_997 dL_law_998 dL_law_999 dL_law_1000 dL_law_1001 ?_
  refine l_arg C 2 hi (by decide) (by decide) dL_law_1002 dL_law_1003 dL_law_1004 dL_law_1005 dL_law_1006 ?_
  refine l_arg C 3 hi (by decide) (by decide) dL_law_1007 dL_law_1008 dL_law_1009 dL_law_1010 dL_law_1011 ?_
  refine l_callM (st := [.int r]) C (zX5_mornings e2) yi_X5_mornings ml_RL_126 rfl (by decide) rfl (Nat.le_of_ble_eq_true rfl) dL_law_1012 ?_
  exact l_same C 1305 dL_law_1015 rfl (go _ _ h2)
theorem law_27 (C : lC X Gc Gm b L xs) (h : RR σc σm) {i : Nat} (hi : i + 6 ≤ L) (go : ∀ σc σm, RR σc σm → lY X Gc Gm Q σc σm 1305 (lvl Gc Gm b i) []) : lY X Gc Gm Q σc σm 1020 (lvl Gc Gm b i) [] := by
  obtain ⟨r, s1, s2, e1, e2, h2⟩ := sim_sheet h (xs (i + 1)) (xs (i + 2)) (xs (i + 3))
  refine l_aload_n C 2 rfl dL_law_1020 rfl ?_
  refine l_arg C 1 hi (by decide) (by decide) dL_law_1021 dL_law_1022 dL_law_1023 dL_law_1024 dL_law_1025 ?_
  refine l_arg C 2 hi (by decide) (by decide) dL_law_1026 dL_law_1027 dL_law_1028 dL_law_1029 dL_law_1030 ?_
  refine l_arg C 3 hi (by decide) (by decide) dL_law_1031 dL_law_1032 dL_law_1033 dL_law_1034 dL_law_1035 ?_
  refine l_callC (st := []) C (zX4_sheet e1) yi_X4_sheet ml_RL_127 rfl (by decide) rfl (Nat.le_of_ble_eq_true rfl) dL_law_1036 ?_
  refine l_aload_n C 1 rfl dL_law_1039 rfl ?_
  refine l_arg C 1 hi (by decide) (by decide) dL_law_1040 dL_law_1041 dL_law_1042 dL_law_1043 dL_law_1044 ?_
  refine l_arg C 2 hi (by decide) (by decide) dL_law_1045 dL_law_1046 dL_law_1047 dL_law_1048 dL_law_1049 ?_
  refine l_arg C 3 hi (by decide) (by decide) dL_law_1050 dL_law_1051 dL_law_1052 dL_law_1053 dL_law_1054 ?_
  refine l_callM (st := [.int r]) C (zX5_sheet e2) yi_X5_sheet ml_RL_130 rfl (by decide) rfl (Nat.le_of_ble_eq_true rfl) dL_law_1055 ?_
  exact l_same C 1305 dL_law_1058 rfl (go _ _ h2)
theorem law_28 (C : lC X Gc Gm b L xs) (h : RR σc σm) {i : Nat} (hi : i + 6 ≤ L) (go : ∀ σc σm, RR σc σm → lY X Gc Gm Q σc σm 1305 (lvl Gc Gm b i) []) : lY X Gc Gm Q σc σm 1063 (lvl Gc Gm b i) [] := by
  obtain ⟨r, s1, s2, e1, e2, h2⟩ := sim_lose h (xs (i + 1))
  refine l_aload_n C 2 rfl dL_law_1063 rfl ?_
  refine l_arg C 1 hi (by decide) (by decide) dL_law_1064 dL_law_1065 dL_law_1066 dL_law_1067 dL_law_1068 ?_
  refine l_callC (st := []) C (zX4_lose e1) yi_X4_lose ml_RL_131 rfl (by decide) rfl (Nat.le_of_ble_eq_true rfl) dL_law_1069 ?_
  refine l_aload_n C 1 rfl dL_law_1072 rfl ?_
  refine l_arg C 1 hi (by decide) (by decide) dL_law_1073 dL_law_1074 dL_law_1075 dL_law_1076 dL_law_1077 ?_
  refine l_callM (st := [.int r]) C (zX5_lose e2) yi_X5_lose ml_RL_134 rfl (by decide) rfl (Nat.le_of_ble_eq_true rfl) dL_law_1078 ?_
  exact l_same C 1305 dL_law_1081 rfl (go _ _ h2)
theorem law_29 (C : lC X Gc Gm b L xs) (h : RR σc σm) {i : Nat} (hi : i + 6 ≤ L) (go : ∀ σc σm, RR σc σm → lY X Gc Gm Q σc σm 1305 (lvl Gc Gm b i) []) : lY X Gc Gm Q σc σm 1086 (lvl Gc Gm b i) [] := by
  obtain ⟨r, s1, s2, e1, e2, h2⟩ := sim_lay h (xs (i + 1)) (xs (i + 2)) (xs (i + 3)) (xs (i + 4))
  refine l_aload_n C 2 rfl dL_law_1086 rfl ?_
  refine l_arg C 1 hi (by decide) (by decide) dL_law_1087 dL_law_1088 dL_law_1089 dL_law_1090 dL_law_1091 ?_
  refine l_arg C 2 hi (by decide) (by decide) dL_law_1092 dL_law_1093 dL_law_1094 dL_law_1095 dL_law_1096 ?_
  refine l_arg C 3 hi (by decide) (by decide) dL_law_1097 dL_law_1098 dL_law_1099 dL_law_1100 dL_law_1101 ?_
  refine l_arg C 4 hi (by decide) (by decide) dL_law_1102 dL_law_1103 dL_law_1104 dL_law_1105 dL_law_1106 ?_
  refine l_callC (st := []) C (zX4_lay e1) yi_X4_lay ml_RL_135 rfl (by decide) rfl (Nat.le_of_ble_eq_true rfl) dL_law_1107 ?_
  refine l_aload_n C 1 rfl dL_law_1110 rfl ?_
  refine l_arg C 1 hi (by decide) (by decide) dL_law_1111 dL_law_1112 dL_law_1113 dL_law_1114 dL_law_1115 ?_
  refine l_arg C 2 hi (by decide) (by decide) dL_law_1116 dL_law_1117 dL_law_1118 dL_law_1119 dL_law_1120 ?_
  refine l_arg C 3 hi (by decide) (by decide) dL_law_1121 dL_law_1122 dL_law_1123 dL_law_1124 dL_law_1125 ?_
  refine l_arg C 4 hi (by decide) (by decide) dL_law_1126 dL_law_1127 dL_law_1128 dL_law_1129 dL_law_1130 ?_
  refine l_callM (st := [.int r]) C (zX5_lay e2) yi_X5_lay ml_RL_138 rfl (by decide) rfl (Nat.le_of_ble_eq_true rfl) dL_law_1131 ?_
  exact l_same C 1305 dL_law_1134 rfl (go _ _ h2)
theorem law_30 (C : lC X Gc Gm b L xs) (h : RR σc σm) {i : Nat} (hi : i + 6 ≤ L) (go : ∀ σc σm, RR σc σm → lY X Gc Gm Q σc σm 1305 (lvl Gc Gm b i) []) : lY X Gc Gm Q σc σm 1139 (lvl Gc Gm b i) [] := by
  obtain ⟨r, s1, s2, e1, e2, h2⟩ := sim_get h (xs (i + 1)) (xs (i + 2)) (xs (i + 3))
  refine l_aload_n C 2 rfl dL_law_1139 rfl ?_
  refine l_arg C 1 hi (by decide) (by decide) dL_law_1140 dL_law_1141 dL_law_1142 dL_law_1143 dL_law_1144 ?_
  refine l_arg C 2 hi (by decide) (by decide) dL_law_1145 dL_law_1146 dL_law_1147 dL_law_1148 dL_law_1149 ?_
  refine l_arg C 3 hi (by decide) (by decide) dL_law_1150 dL_law_1151 dL_law_1152 dL_law_1153 dL_law_1154 ?_
  refine l_callC (st := []) C (zX4_get e1) yi_X4_get ml_RL_139 rfl (by decide) rfl (Nat.le_of_ble_eq_true rfl) dL_law_1155 ?_
  refine l_aload_n C 1 rfl dL_law_1158 rfl ?_
  refine l_arg C 1 hi (by decide) (by decide) dL_law_1159 dL_law_1160 dL_law_1161 dL_law_1162 dL_law_1163 ?_
  refine l_arg C 2 hi (by decide) (by decide) dL_law_1164 dL_law_1165 dL_law_1166 dL_law_1167 dL_law_1168 ?_
  refine l_arg C 3 hi (by decide) (by decide) dL_law_1169 dL_law_1170 dL_law_1171 dL_law_1172 dL_law_1173 ?_
  refine l_callM (st := [.int r]) C (zX5_get e2) yi_X5_get ml_RL_142 rfl (by decide) rfl (Nat.le_of_ble_eq_true rfl) dL_law_1174 ?_
  exact l_same C 1305 dL_law_1177 rfl (go _ _ h2)
theorem law_31 (C : lC X Gc Gm b L xs) (h : RR σc σm) {i : Nat} (hi : i + 6 ≤ L) (go : ∀ σc σm, RR σc σm → lY X Gc Gm Q σc σm 1305 (lvl Gc Gm b i) []) : lY X Gc Gm Q σc σm 1182 (lvl Gc Gm b i) [] := by
  obtain ⟨r, s1, s2, e1, e2, h2⟩ := sim_copy h (xs (i + 1)) (xs (i + 2)) (xs (i + 3)) (xs (i + 4)) (xs (i + 5))
  refine l_aload_n C 2 rfl dL_law_1182 rfl ?_
  refine l_arg C 1 hi (by decide) (by decide) dL_law_1183 dL_law_1184 dL_law_1185 dL_law_1186 dL_law_1187 ?_
  refine l_arg C 2 hi (by decide) (by decide) dL_law_1188 dL_law_1189 dL_law_1190 dL_law_1191 dL_law_1192 ?_
  refine l_arg C 3 hi (by decide) (by decide) dL_law_1193 dL_law_1194 dL_law_1195 dL_law_1196 dL_law_1197 ?_
  refine l_arg C 4 hi (by decide) (by decide) dL_law_1198 dL_law_1199 dL_law_1200 dL_law_1201 dL_law_1202 ?_
  refine l_arg C 5 hi (by decide) (by decide) dL_law_1203 dL_law_1204 dL_law_1205 dL_law_1206 dL_law_1207 ?_
  refine l_callC (st := []) C (zX4_copy e1) yi_X4_copy ml_RL_143 rfl (by decide) rfl (Nat.le_of_ble_eq_true rfl) dL_law_1208 ?_
  refine l_aload_n C 1 rfl dL_law_1211 rfl ?_
  refine l_arg C 1 hi (by decide) (by decide) dL_law_1212 dL_law_1213 dL_law_1214 dL_law_1215 dL_law_1216 ?_
  refine l_arg C 2 hi (by decide) (by decide) dL_law_1217 dL_law_1218 dL_law_1219 dL_law_1220 dL_law_1221 ?_
  refine l_arg C 3 hi (by decide) (by decide) dL_law_1222 dL_law_1223 dL_law_1224 dL_law_1225 dL_law_1226 ?_
  refine l_arg C 4 hi (by decide) (by decide) dL_law_1227 dL_law_1228 dL_law_1229 dL_law_1230 dL_law_1231 ?_
  refine l_arg C 5 hi (by decide) (by decide) dL_law_1232 dL_law_1233 dL_law_1234 dL_law_1235 dL_law_1236 ?_
  refine l_callM (st := [.int r]) C (zX5_copy e2) yi_X5_copy ml_RL_147 rfl (by decide) rfl (Nat.le_of_ble_eq_true rfl) dL_law_1237 ?_
  exact l_same C 1305 dL_law_1240 rfl (go _ _ h2)
theorem law_32 (C : lC X Gc Gm b L xs) (h : RR σc σm) {i : Nat} (hi : i + 6 ≤ L) (go : ∀ σc σm, RR σc σm → lY X Gc Gm Q σc σm 1305 (lvl Gc Gm b i) []) : lY X Gc Gm Q σc σm 1245 (lvl Gc Gm b i) [] := by
  obtain ⟨r, s1, s2, e1, e2, h2⟩ := sim_write h (xs (i + 1))
  refine l_aload_n C 2 rfl dL_law_1245 rfl ?_
  refine l_arg C 1 hi (by decide) (by decide) dL_law_1246 dL_law_1247 dL_law_1248 dL_law_1249 dL_law_1250 ?_
  refine l_callC (st := []) C (zX4_write e1) yi_X4_write ml_RL_148 rfl (by decide) rfl (Nat.le_of_ble_eq_true rfl) dL_law_1251 ?_
  refine l_aload_n C 1 rfl dL_law_1254 rfl ?_
  refine l_arg C 1 hi (by decide) (by decide) dL_law_1255 dL_law_1256 dL_law_1257 dL_law_1258 dL_law_1259 ?_
  refine l_callM (st := [.int r]) C (zX5_write e2) yi_X5_write ml_RL_151 rfl (by decide) rfl (Nat.le_of_ble_eq_true rfl) dL_law_1260 ?_
  exact l_same C 1305 dL_law_1263 rfl (go _ _ h2)
theorem law_33 (C : lC X Gc Gm b L xs) (h : RR σc σm) {i : Nat} (hi : i + 6 ≤ L) (go : ∀ σc σm, RR σc σm → lY X Gc Gm Q σc σm 1305 (lvl Gc Gm b i) []) : lY X Gc Gm Q σc σm 1268 (lvl Gc Gm b i) [] := by
  obtain ⟨r, s1, s2, e1, e2, h2⟩ := sim_count h (xs (i + 1))
  refine l_aload_n C 2 rfl dL_law_1268 rfl ?_
  refine l_arg C 1 hi (by decide) (by decide) dL_law_1269 dL_law_1270 dL_law_1271 dL_law_1272 dL_law_1273 ?_
  refine l_callC (st := []) C (zX4_count e1) yi_X4_count ml_RL_152 rfl (by decide) rfl (Nat.le_of_ble_eq_true rfl) dL_law_1274 ?_
  refine l_aload_n C 1 rfl dL_law_1277 rfl ?_
  refine l_arg C 1 hi (by decide) (by decide) dL_law_1278 dL_law_1279 dL_law_1280 dL_law_1281 dL_law_1282 ?_
  refine l_callM (st := [.int r]) C (zX5_count e2) yi_X5_count ml_RL_155 rfl (by decide) rfl (Nat.le_of_ble_eq_true rfl) dL_law_1283 ?_
  exact l_same C 1305 dL_law_1286 rfl (go _ _ h2)
theorem law_34 (C : lC X Gc Gm b L xs) (h : RR σc σm) {i : Nat} (hi : i + 6 ≤ L) (go : ∀ σc σm, RR σc σm → lY X Gc Gm Q σc σm 1305 (lvl Gc Gm b i) []) : lY X Gc Gm Q σc σm 1291 (lvl Gc Gm b i) [] := by
  obtain ⟨r, s1, s2, e1, e2, h2⟩ := sim_digest h 
  refine l_aload_n C 2 rfl dL_law_1291 rfl ?_
  refine l_callC (st := []) C (zX4_digest e1) yi_X4_digest ml_RL_156 rfl (by decide) rfl (Nat.le_of_ble_eq_true rfl) dL_law_1292 ?_
  refine l_aload_n C 1 rfl dL_law_1295 rfl ?_
  refine l_callM (st := [.long r]) C (zX5_digest e2) yi_X5_digest ml_RL_160 rfl (by decide) rfl (Nat.le_of_ble_eq_true rfl) dL_law_1296 ?_
  exact l_sameL C 1305 dL_law_1299 dL_law_1300 rfl (go _ _ h2)
theorem l_case (C : lC X Gc Gm b L xs) {lv : List (Nat × Value)} {st : List Value} {x : Int32} {k : Nat} {off : Int} (tgt : Nat) (hx : x.toInt = (k : Int)) (hk : k < 35) (ho : (#[155, 188, 211, 234, 257, 290, 323, 356, 389, 412, 445, 488, 521, 544, 567, 590, 613, 636, 689, 732, 765, 798, 831, 844, 867, 890, 944, 987, 1030, 1053, 1106, 1149, 1212, 1235, 1258] : Array Int)[k]? = some off) (ht : (33 : Int) + off = (tgt : Int)) (kk : lY X Gc Gm Q σc σm tgt lv st) : lY X Gc Gm Q σc σm 33 lv (.int x :: st) :=
  l_tabIn C tgt dL_law_33 (by omega) (by omega) (by rw [hx]; simpa using ho) (by exact ht) kk
theorem law_sw (C : lC X Gc Gm b L xs) (h : RR σc σm) {i : Nat} (hi : i + 6 ≤ L) (go : ∀ σc σm, RR σc σm → lY X Gc Gm Q σc σm 1305 (lvl Gc Gm b i) []) (x : Int32) : lY X Gc Gm Q σc σm 33 (lvl Gc Gm b i) [.int x] := by
  have key : ∀ k : Nat, k < 35 → (x.toInt = (k : Int) → lY X Gc Gm Q σc σm 33 (lvl Gc Gm b i) [.int x]) := (ls_s (ls_s (ls_s (ls_s (ls_s (ls_s (ls_s (ls_s (ls_s (ls_s (ls_s (ls_s (ls_s (ls_s (ls_s (ls_s (ls_s (ls_s (ls_s (ls_s (ls_s (ls_s (ls_s (ls_s (ls_s (ls_s (ls_s (ls_s (ls_s (ls_s (ls_s (ls_s (ls_s (ls_s (ls_s ls_0 (fun hx => l_case (k := 0) C 188 hx (by decide) rfl rfl (law_0 C h hi go))) (fun hx => l_case (k := 1) C 221 hx (by decide) rfl rfl (law_1 C h hi go))) (fun hx => l_case (k := 2) C 244 hx (by decide) rfl rfl (law_2 C h hi go))) (fun hx => l_case (k := 3) C 267 hx (by decide) rfl rfl (law_3 C h hi go))) (fun hx => l_case (k := 4) C 290 hx (by decide) rfl rfl (law_4 C h hi go))) (fun hx => l_case (k := 5) C 323 hx (by decide) rfl rfl (law_5 C h hi go))) (fun hx => l_case (k := 6) C 356 hx (by decide) rfl rfl (law_6 C h hi go))) (fun hx => l_case (k := 7) C 389 hx (by decide) rfl rfl (law_7 C h hi go))) (fun hx => l_case (k := 8) C 422 hx (by decide) rfl rfl (law_8 C h hi go))) (fun hx => l_case (k := 9) C 445 hx (by decide) rfl rfl (law_9 C h hi go))) (fun hx => l_case (k := 10) C 478 hx (by decide) rfl rfl (law_10 C h hi go))) (fun hx => l_case (k := 11) C 521 hx (by decide) rfl rfl (law_11 C h hi go))) (fun hx => l_case (k := 12) C 554 hx (by decide) rfl rfl (law_12 C h hi go))) (fun hx => l_case (k := 13) C 577 hx (by decide) rfl rfl (law_13 C h hi go))) (fun hx => l_case (k := 14) C 600 hx (by decide) rfl rfl (law_14 C h hi go))) (fun hx => l_case (k := 15) C 623 hx (by decide) rfl rfl (law_15 C h hi go))) (fun hx => l_case (k := 16) C 646 hx (by decide) rfl rfl (law_16 C h hi go))) (fun hx => l_case (k := 17) C 669 hx (by decide) rfl rfl (law_17 C h hi go))) (fun hx => l_case (k := 18) C 722 hx (by decide) rfl rfl (law_18 C h hi go))) (fun hx => l_case (k := 19) C 765 hx (by decide) rfl rfl (law_19 C h hi go))) (fun hx => l_case (k := 20) C 798 hx (by decide) rfl rfl (law_20 C h hi go))) (fun hx => l_case (k := 21) C 831 hx (by decide) rfl rfl (law_21 C h hi go))) (fun hx => l_case (k := 22) C 864 hx (by decide) rfl rfl (law_22 C h hi go))) (fun hx => l_case (k := 23) C 877 hx (by decide) rfl rfl (law_23 C h hi go))) (fun hx => l_case (k := 24) C 900 hx (by decide) rfl rfl (law_24 C h hi go))) (fun hx => l_case (k := 25) C 923 hx (by decide) rfl rfl (law_25 C h hi go))) (fun hx => l_case (k := 26) C 977 hx (by decide) rfl rfl (law_26 C h hi go))) (fun hx => l_case (k := 27) C 1020 hx (by decide) rfl rfl (law_27 C h hi go))) (fun hx => l_case (k := 28) C 1063 hx (by decide) rfl rfl (law_28 C h hi go))) (fun hx => l_case (k := 29) C 1086 hx (by decide) rfl rfl (law_29 C h hi go))) (fun hx => l_case (k := 30) C 1139 hx (by decide) rfl rfl (law_30 C h hi go))) (fun hx => l_case (k := 31) C 1182 hx (by decide) rfl rfl (law_31 C h hi go))) (fun hx => l_case (k := 32) C 1245 hx (by decide) rfl rfl (law_32 C h hi go))) (fun hx => l_case (k := 33) C 1268 hx (by decide) rfl rfl (law_33 C h hi go))) (fun hx => l_case (k := 34) C 1291 hx (by decide) rfl rfl (law_34 C h hi go)))
  by_cases hx : x.toInt < 0 ∨ 34 < x.toInt
  · exact l_tabOut C 1305 dL_law_33 hx rfl (go _ _ h)
  · exact key x.toInt.toNat (by omega) (by omega)
end LCASE
