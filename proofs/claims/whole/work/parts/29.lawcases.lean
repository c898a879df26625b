theorem law_0 {X : Lx} {Inv : St → St → Prop} (hc : ca_0 Inv) (g : LOk X) {C M : St} (hI : Inv C M) {i : Int} (hi : 0 ≤ i ∧ i + 6 ≤ lL X) (k : ∀ C' M', Inv C' M' → Lg X C' M' 1469 (LV X i) []) : Lg X C M 224 (LV X i) [] := by
  obtain ⟨v, C', M', hC, hM, hI2⟩ := hc C M (sv X (i + 1).toNat) (sv X (i + 2).toNat) hI (sv_in X _) (sv_in X _)
  refine l_aload (lv := LV X i) g dL_law_224 rfl ?_
  refine l_arg (j := 1) g ⟨hi.1, by omega, by decide⟩ dL_law_225 dL_law_226 dL_law_227 dL_law_228 dL_law_229 ?_
  refine l_arg (j := 2) g ⟨hi.1, by omega, by decide⟩ dL_law_230 dL_law_231 dL_law_232 dL_law_233 dL_law_234 ?_
  refine l_callC (u := (v, C')) (as := fun _ => [vi (sv X (i + 1).toNat), vi (sv X (i + 2).toNat)]) g (kX5_row C (sv X (i + 1).toNat) (sv X (i + 2).toNat)) hC mX5_row rfl w_317 w_318 w_319 (by decide) (fun _ => rfl) rfl (Nat.le_of_ble_eq_true rfl) dL_law_235 ?_
  refine l_aload (lv := LV X i) g dL_law_238 rfl ?_
  refine l_arg (j := 1) g ⟨hi.1, by omega, by decide⟩ dL_law_239 dL_law_240 dL_law_241 dL_law_242 dL_law_243 ?_
  refine l_arg (j := 2) g ⟨hi.1, by omega, by decide⟩ dL_law_244 dL_law_245 dL_law_246 dL_law_247 dL_law_248 ?_
  refine l_callM (u := (v, M')) (as := fun _ => [vi (sv X (i + 1).toNat), vi (sv X (i + 2).toNat)]) g (kX6_row M (sv X (i + 1).toNat) (sv X (i + 2).toNat)) hM mX6_row rfl w_1048 w_1049 w_1050 (by decide) (fun _ => rfl) rfl (Nat.le_of_ble_eq_true rfl) dL_law_249 ?_
  refine l_eqI g dL_law_252 1469 (by decide) ?_
  exact k _ _ hI2
theorem law_1 {X : Lx} {Inv : St → St → Prop} (hc : ca_1 Inv) (g : LOk X) {C M : St} (hI : Inv C M) {i : Int} (hi : 0 ≤ i ∧ i + 6 ≤ lL X) (k : ∀ C' M', Inv C' M' → Lg X C' M' 1469 (LV X i) []) : Lg X C M 257 (LV X i) [] := by
  obtain ⟨v, C', M', hC, hM, hI2⟩ := hc C M (sv X (i + 1).toNat) (sv X (i + 2).toNat) (sv X (i + 3).toNat) hI (sv_in X _) (sv_in X _) (sv_in X _)
  refine l_aload (lv := LV X i) g dL_law_257 rfl ?_
  refine l_arg (j := 1) g ⟨hi.1, by omega, by decide⟩ dL_law_258 dL_law_259 dL_law_260 dL_law_261 dL_law_262 ?_
  refine l_arg (j := 2) g ⟨hi.1, by omega, by decide⟩ dL_law_263 dL_law_264 dL_law_265 dL_law_266 dL_law_267 ?_
  refine l_arg (j := 3) g ⟨hi.1, by omega, by decide⟩ dL_law_268 dL_law_269 dL_law_270 dL_law_271 dL_law_272 ?_
  refine l_callC (u := (v, C')) (as := fun _ => [vi (sv X (i + 1).toNat), vi (sv X (i + 2).toNat), vi (sv X (i + 3).toNat)]) g (kX5_lay C (sv X (i + 1).toNat) (sv X (i + 2).toNat) (sv X (i + 3).toNat)) hC mX5_lay rfl w_338 w_339 w_340 (by decide) (fun _ => rfl) rfl (Nat.le_of_ble_eq_true rfl) dL_law_273 ?_
  refine l_aload (lv := LV X i) g dL_law_276 rfl ?_
  refine l_arg (j := 1) g ⟨hi.1, by omega, by decide⟩ dL_law_277 dL_law_278 dL_law_279 dL_law_280 dL_law_281 ?_
  refine l_arg (j := 2) g ⟨hi.1, by omega, by decide⟩ dL_law_282 dL_law_283 dL_law_284 dL_law_285 dL_law_286 ?_
  refine l_arg (j := 3) g ⟨hi.1, by omega, by decide⟩ dL_law_287 dL_law_288 dL_law_289 dL_law_290 dL_law_291 ?_
  refine l_callM (u := (v, M')) (as := fun _ => [vi (sv X (i + 1).toNat), vi (sv X (i + 2).toNat), vi (sv X (i + 3).toNat)]) g (kX6_lay M (sv X (i + 1).toNat) (sv X (i + 2).toNat) (sv X (i + 3).toNat)) hM mX6_lay rfl w_1059 w_1060 w_1061 (by decide) (fun _ => rfl) rfl (Nat.le_of_ble_eq_true rfl) dL_law_292 ?_
  refine l_eqI g dL_law_295 1469 (by decide) ?_
  exact k _ _ hI2
theorem law_2 {X : Lx} {Inv : St → St → Prop} (hc : ca_2 Inv) (g : LOk X) {C M : St} (hI : Inv C M) {i : Int} (hi : 0 ≤ i ∧ i + 6 ≤ lL X) (k : ∀ C' M', Inv C' M' → Lg X C' M' 1469 (LV X i) []) : Lg X C M 300 (LV X i) [] := by
  obtain ⟨v, C', M', hC, hM, hI2⟩ := hc C M (sv X (i + 1).toNat) hI (sv_in X _)
  refine l_aload (lv := LV X i) g dL_law_300 rfl ?_
  refine l_arg (j := 1) g ⟨hi.1, by omega, by decide⟩ dL_law_301 dL_law_302 dL_law_303 dL_law_304 dL_law_305 ?_
  refine l_callC (u := (v, C')) (as := fun _ => [vi (sv X (i + 1).toNat)]) g (kX5_tear C (sv X (i + 1).toNat)) hC mX5_tear rfl w_350 w_351 w_352 (by decide) (fun _ => rfl) rfl (Nat.le_of_ble_eq_true rfl) dL_law_306 ?_
  refine l_aload (lv := LV X i) g dL_law_309 rfl ?_
  refine l_arg (j := 1) g ⟨hi.1, by omega, by decide⟩ dL_law_310 dL_law_311 dL_law_312 dL_law_313 dL_law_314 ?_
  refine l_callM (u := (v, M')) (as := fun _ => [vi (sv X (i + 1).toNat)]) g (kX6_tear M (sv X (i + 1).toNat)) hM mX6_tear rfl w_1071 w_1072 w_1073 (by decide) (fun _ => rfl) rfl (Nat.le_of_ble_eq_true rfl) dL_law_315 ?_
  refine l_eqI g dL_law_318 1469 (by decide) ?_
  exact k _ _ hI2
theorem law_3 {X : Lx} {Inv : St → St → Prop} (hc : ca_3 Inv) (g : LOk X) {C M : St} (hI : Inv C M) {i : Int} (hi : 0 ≤ i ∧ i + 6 ≤ lL X) (k : ∀ C' M', Inv C' M' → Lg X C' M' 1469 (LV X i) []) : Lg X C M 323 (LV X i) [] := by
  obtain ⟨v, C', M', hC, hM, hI2⟩ := hc C M (sv X (i + 1).toNat) (sv X (i + 2).toNat) (sv X (i + 3).toNat) (sv X (i + 4).toNat) (sv X (i + 5).toNat) hI (sv_in X _) (sv_in X _) (sv_in X _) (sv_in X _) (sv_in X _)
  refine l_aload (lv := LV X i) g dL_law_323 rfl ?_
  refine l_arg (j := 1) g ⟨hi.1, by omega, by decide⟩ dL_law_324 dL_law_325 dL_law_326 dL_law_327 dL_law_328 ?_
  refine l_arg (j := 2) g ⟨hi.1, by omega, by decide⟩ dL_law_329 dL_law_330 dL_law_331 dL_law_332 dL_law_333 ?_
  refine l_arg (j := 3) g ⟨hi.1, by omega, by decide⟩ dL_law_334 dL_law_335 dL_law_336 dL_law_337 dL_law_338 ?_
  refine l_arg (j := 4) g ⟨hi.1, by omega, by decide⟩ dL_law_339 dL_law_340 dL_law_341 dL_law_342 dL_law_343 ?_
  refine l_arg (j := 5) g ⟨hi.1, by omega, by decide⟩ dL_law_344 dL_law_345 dL_law_346 dL_law_347 dL_law_348 ?_
  refine l_callC (u := (v, C')) (as := fun _ => [vi (sv X (i + 1).toNat), vi (sv X (i + 2).toNat), vi (sv X (i + 3).toNat), vi (sv X (i + 4).toNat), vi (sv X (i + 5).toNat)]) g (kX5_copy C (sv X (i + 1).toNat) (sv X (i + 2).toNat) (sv X (i + 3).toNat) (sv X (i + 4).toNat) (sv X (i + 5).toNat)) hC mX5_copy rfl w_354 w_355 w_356 (by decide) (fun _ => rfl) rfl (Nat.le_of_ble_eq_true rfl) dL_law_349 ?_
  refine l_aload (lv := LV X i) g dL_law_352 rfl ?_
  refine l_arg (j := 1) g ⟨hi.1, by omega, by decide⟩ dL_law_353 dL_law_354 dL_law_355 dL_law_356 dL_law_357 ?_
  refine l_arg (j := 2) g ⟨hi.1, by omega, by decide⟩ dL_law_358 dL_law_359 dL_law_360 dL_law_361 dL_law_362 ?_
  refine l_arg (j := 3) g ⟨hi.1, by omega, by decide⟩ dL_law_363 dL_law_364 dL_law_365 dL_law_366 dL_law_367 ?_
  refine l_arg (j := 4) g ⟨hi.1, by omega, by decide⟩ dL_law_368 dL_law_369 dL_law_370 dL_law_371 dL_law_372 ?_
  refine l_arg (j := 5) g ⟨hi.1, by omega, by decide⟩ dL_law_373 dL_law_374 dL_law_375 dL_law_376 dL_law_377 ?_
  refine l_callM (u := (v, M')) (as := fun _ => [vi (sv X (i + 1).toNat), vi (sv X (i + 2).toNat), vi (sv X (i + 3).toNat), vi (sv X (i + 4).toNat), vi (sv X (i + 5).toNat)]) g (kX6_copy M (sv X (i + 1).toNat) (sv X (i + 2).toNat) (sv X (i + 3).toNat) (sv X (i + 4).toNat) (sv X (i + 5).toNat)) hM mX6_copy rfl w_1075 w_1076 w_1077 (by decide) (fun _ => rfl) rfl (Nat.le_of_ble_eq_true rfl) dL_law_378 ?_
  refine l_eqI g dL_law_381 1469 (by decide) ?_
  exact k _ _ hI2
theorem law_4 {X : Lx} {Inv : St → St → Prop} (hc : ca_4 Inv) (g : LOk X) {C M : St} (hI : Inv C M) {i : Int} (hi : 0 ≤ i ∧ i + 6 ≤ lL X) (k : ∀ C' M', Inv C' M' → Lg X C' M' 1469 (LV X i) []) : Lg X C M 386 (LV X i) [] := by
  obtain ⟨v, C', M', hC, hM, hI2⟩ := hc C M (sv X (i + 1).toNat) hI (sv_in X _)
  refine l_aload (lv := LV X i) g dL_law_386 rfl ?_
  refine l_arg (j := 1) g ⟨hi.1, by omega, by decide⟩ dL_law_387 dL_law_388 dL_law_389 dL_law_390 dL_law_391 ?_
  refine l_callC (u := (v, C')) (as := fun _ => [vi (sv X (i + 1).toNat)]) g (kX5_mean C (sv X (i + 1).toNat)) hC mX5_mean rfl w_365 w_366 w_367 (by decide) (fun _ => rfl) rfl (Nat.le_of_ble_eq_true rfl) dL_law_392 ?_
  refine l_aload (lv := LV X i) g dL_law_395 rfl ?_
  refine l_arg (j := 1) g ⟨hi.1, by omega, by decide⟩ dL_law_396 dL_law_397 dL_law_398 dL_law_399 dL_law_400 ?_
  refine l_callM (u := (v, M')) (as := fun _ => [vi (sv X (i + 1).toNat)]) g (kX6_mean M (sv X (i + 1).toNat)) hM mX6_mean rfl w_1079 w_1080 w_1081 (by decide) (fun _ => rfl) rfl (Nat.le_of_ble_eq_true rfl) dL_law_401 ?_
  refine l_eqI g dL_law_404 1469 (by decide) ?_
  exact k _ _ hI2
theorem law_5 {X : Lx} {Inv : St → St → Prop} (hc : ca_5 Inv) (g : LOk X) {C M : St} (hI : Inv C M) {i : Int} (hi : 0 ≤ i ∧ i + 6 ≤ lL X) (k : ∀ C' M', Inv C' M' → Lg X C' M' 1469 (LV X i) []) : Lg X C M 409 (LV X i) [] := by
  obtain ⟨v, C', M', hC, hM, hI2⟩ := hc C M (sv X (i + 1).toNat) (sv X (i + 2).toNat) hI (sv_in X _) (sv_in X _)
  refine l_aload (lv := LV X i) g dL_law_409 rfl ?_
  refine l_arg (j := 1) g ⟨hi.1, by omega, by decide⟩ dL_law_410 dL_law_411 dL_law_412 dL_law_413 dL_law_414 ?_
  refine l_arg (j := 2) g ⟨hi.1, by omega, by decide⟩ dL_law_415 dL_law_416 dL_law_417 dL_law_418 dL_law_419 ?_
  refine l_callC (u := (v, C')) (as := fun _ => [vi (sv X (i + 1).toNat), vi (sv X (i + 2).toNat)]) g (kX5_text C (sv X (i + 1).toNat) (sv X (i + 2).toNat)) hC mX5_text rfl w_369 w_370 w_371 (by decide) (fun _ => rfl) rfl (Nat.le_of_ble_eq_true rfl) dL_law_420 ?_
  refine l_aload (lv := LV X i) g dL_law_423 rfl ?_
  refine l_arg (j := 1) g ⟨hi.1, by omega, by decide⟩ dL_law_424 dL_law_425 dL_law_426 dL_law_427 dL_law_428 ?_
  refine l_arg (j := 2) g ⟨hi.1, by omega, by decide⟩ dL_law_429 dL_law_430 dL_law_431 dL_law_432 dL_law_433 ?_
  refine l_callM (u := (v, M')) (as := fun _ => [vi (sv X (i + 1).toNat), vi (sv X (i + 2).toNat)]) g (kX6_text M (sv X (i + 1).toNat) (sv X (i + 2).toNat)) hM mX6_text rfl w_1083 w_1084 w_1085 (by decide) (fun _ => rfl) rfl (Nat.le_of_ble_eq_true rfl) dL_law_434 ?_
  refine l_eqI g dL_law_437 1469 (by decide) ?_
  exact k _ _ hI2
theorem law_6 {X : Lx} {Inv : St → St → Prop} (hc : ca_6 Inv) (g : LOk X) {C M : St} (hI : Inv C M) {i : Int} (hi : 0 ≤ i ∧ i + 6 ≤ lL X) (k : ∀ C' M', Inv C' M' → Lg X C' M' 1469 (LV X i) []) : Lg X C M 442 (LV X i) [] := by
  obtain ⟨v, C', M', hC, hM, hI2⟩ := hc C M (sv X (i + 1).toNat) (sv X (i + 2).toNat) (sv X (i + 3).toNat) hI (sv_in X _) (sv_in X _) (sv_in X _)
  refine l_aload (lv := LV X i) g dL_law_442 rfl ?_
  refine l_arg (j := 1) g ⟨hi.1, by omega, by decide⟩ dL_law_443 dL_law_444 dL_law_445 dL_law_446 dL_law_447 ?_
  refine l_arg (j := 2) g ⟨hi.1, by omega, by decide⟩ dL_law_448 dL_law_449 dL_law_450 dL_law_451 dL_law_452 ?_
  refine l_arg (j := 3) g ⟨hi.1, by omega, by decide⟩ dL_law_453 dL_law_454 dL_law_455 dL_law_456 dL_law_457 ?_
  refine l_callC (u := (v, C')) (as := fun _ => [vi (sv X (i + 1).toNat), vi (sv X (i + 2).toNat), vi (sv X (i + 3).toNat)]) g (kX5_put C (sv X (i + 1).toNat) (sv X (i + 2).toNat) (sv X (i + 3).toNat)) hC mX5_put rfl w_376 w_377 w_378 (by decide) (fun _ => rfl) rfl (Nat.le_of_ble_eq_true rfl) dL_law_458 ?_
  refine l_aload (lv := LV X i) g dL_law_461 rfl ?_
  refine l_arg (j := 1) g ⟨hi.1, by omega, by decide⟩ dL_law_462 dL_law_463 dL_law_464 dL_law_465 dL_law_466 ?_
  refine l_arg (j := 2) g ⟨hi.1, by omega, by decide⟩ dL_law_467 dL_law_468 dL_law_469 dL_law_470 dL_law_471 ?_
  refine l_arg (j := 3) g ⟨hi.1, by omega, by decide⟩ dL_law_472 dL_law_473 dL_law_474 dL_law_475 dL_law_476 ?_
  refine l_callM (u := (v, M')) (as := fun _ => [vi (sv X (i + 1).toNat), vi (sv X (i + 2).toNat), vi (sv X (i + 3).toNat)]) g (kX6_put M (sv X (i + 1).toNat) (sv X (i + 2).toNat) (sv X (i + 3).toNat)) hM mX6_put rfl w_1090 w_1091 w_1092 (by decide) (fun _ => rfl) rfl (Nat.le_of_ble_eq_true rfl) dL_law_477 ?_
  refine l_eqI g dL_law_480 1469 (by decide) ?_
  exact k _ _ hI2
theorem law_7 {X : Lx} {Inv : St → St → Prop} (hc : ca_7 Inv) (g : LOk X) {C M : St} (hI : Inv C M) {i : Int} (hi : 0 ≤ i ∧ i + 6 ≤ lL X) (k : ∀ C' M', Inv C' M' → Lg X C' M' 1469 (LV X i) []) : Lg X C M 485 (LV X i) [] := by
  obtain ⟨v, C', M', hC, hM, hI2⟩ := hc C M (sv X (i + 1).toNat) hI (sv_in X _)
  refine l_aload (lv := LV X i) g dL_law_485 rfl ?_
  refine l_arg (j := 1) g ⟨hi.1, by omega, by decide⟩ dL_law_486 dL_law_487 dL_law_488 dL_law_489 dL_law_490 ?_
  refine l_callC (u := (v, C')) (as := fun _ => [vi (sv X (i + 1).toNat)]) g (kX5_fault C (sv X (i + 1).toNat)) hC mX5_fault rfl w_380 w_381 w_382 (by decide) (fun _ => rfl) rfl (Nat.le_of_ble_eq_true rfl) dL_law_491 ?_
  refine l_aload (lv := LV X i) g dL_law_494 rfl ?_
  refine l_arg (j := 1) g ⟨hi.1, by omega, by decide⟩ dL_law_495 dL_law_496 dL_law_497 dL_law_498 dL_law_499 ?_
  refine l_callM (u := (v, M')) (as := fun _ => [vi (sv X (i + 1).toNat)]) g (kX6_fault M (sv X (i + 1).toNat)) hM mX6_fault rfl w_1094 w_1095 w_1096 (by decide) (fun _ => rfl) rfl (Nat.le_of_ble_eq_true rfl) dL_law_500 ?_
  refine l_eqI g dL_law_503 1469 (by decide) ?_
  exact k _ _ hI2
theorem law_8 {X : Lx} {Inv : St → St → Prop} (hc : ca_8 Inv) (g : LOk X) {C M : St} (hI : Inv C M) {i : Int} (hi : 0 ≤ i ∧ i + 6 ≤ lL X) (k : ∀ C' M', Inv C' M' → Lg X C' M' 1469 (LV X i) []) : Lg X C M 508 (LV X i) [] := by
  obtain ⟨v, C', M', hC, hM, hI2⟩ := hc C M (sv X (i + 1).toNat) (sv X (i + 2).toNat) hI (sv_in X _) (sv_in X _)
  refine l_aload (lv := LV X i) g dL_law_508 rfl ?_
  refine l_arg (j := 1) g ⟨hi.1, by omega, by decide⟩ dL_law_509 dL_law_510 dL_law_511 dL_law_512 dL_law_513 ?_
  refine l_arg (j := 2) g ⟨hi.1, by omega, by decide⟩ dL_law_514 dL_law_515 dL_law_516 dL_law_517 dL_law_518 ?_
  refine l_callC (u := (v, C')) (as := fun _ => [vi (sv X (i + 1).toNat), vi (sv X (i + 2).toNat)]) g (kX5_stuff C (sv X (i + 1).toNat) (sv X (i + 2).toNat)) hC mX5_stuff rfl w_431 w_432 w_433 (by decide) (fun _ => rfl) rfl (Nat.le_of_ble_eq_true rfl) dL_law_519 ?_
  refine l_aload (lv := LV X i) g dL_law_522 rfl ?_
  refine l_arg (j := 1) g ⟨hi.1, by omega, by decide⟩ dL_law_523 dL_law_524 dL_law_525 dL_law_526 dL_law_527 ?_
  refine l_arg (j := 2) g ⟨hi.1, by omega, by decide⟩ dL_law_528 dL_law_529 dL_law_530 dL_law_531 dL_law_532 ?_
  refine l_callM (u := (v, M')) (as := fun _ => [vi (sv X (i + 1).toNat), vi (sv X (i + 2).toNat)]) g (kX6_stuff M (sv X (i + 1).toNat) (sv X (i + 2).toNat)) hM mX6_stuff rfl w_1121 w_1122 w_1123 (by decide) (fun _ => rfl) rfl (Nat.le_of_ble_eq_true rfl) dL_law_533 ?_
  refine l_eqI g dL_law_536 1469 (by decide) ?_
  exact k _ _ hI2
theorem law_9 {X : Lx} {Inv : St → St → Prop} (hc : ca_9 Inv) (g : LOk X) {C M : St} (hI : Inv C M) {i : Int} (hi : 0 ≤ i ∧ i + 6 ≤ lL X) (k : ∀ C' M', Inv C' M' → Lg X C' M' 1469 (LV X i) []) : Lg X C M 541 (LV X i) [] := by
  obtain ⟨v, C', M', hC, hM, hI2⟩ := hc C M (sv X (i + 1).toNat) (sv X (i + 2).toNat) hI (sv_in X _) (sv_in X _)
  refine l_aload (lv := LV X i) g dL_law_541 rfl ?_
  refine l_arg (j := 1) g ⟨hi.1, by omega, by decide⟩ dL_law_542 dL_law_543 dL_law_544 dL_law_545 dL_law_546 ?_
  refine l_arg (j := 2) g ⟨hi.1, by omega, by decide⟩ dL_law_547 dL_law_548 dL_law_549 dL_law_550 dL_law_551 ?_
  refine l_callC (u := (v, C')) (as := fun _ => [vi (sv X (i + 1).toNat), vi (sv X (i + 2).toNat)]) g (kX5_about C (sv X (i + 1).toNat) (sv X (i + 2).toNat)) hC mX5_about rfl w_442 w_443 w_444 (by decide) (fun _ => rfl) rfl (Nat.le_of_ble_eq_true rfl) dL_law_552 ?_
  refine l_aload (lv := LV X i) g dL_law_555 rfl ?_
  refine l_arg (j := 1) g ⟨hi.1, by omega, by decide⟩ dL_law_556 dL_law_557 dL_law_558 dL_law_559 dL_law_560 ?_
  refine l_arg (j := 2) g ⟨hi.1, by omega, by decide⟩ dL_law_561 dL_law_562 dL_law_563 dL_law_564 dL_law_565 ?_
  refine l_callM (u := (v, M')) (as := fun _ => [vi (sv X (i + 1).toNat), vi (sv X (i + 2).toNat)]) g (kX6_about M (sv X (i + 1).toNat) (sv X (i + 2).toNat)) hM mX6_about rfl w_1125 w_1126 w_1127 (by decide) (fun _ => rfl) rfl (Nat.le_of_ble_eq_true rfl) dL_law_566 ?_
  refine l_eqI g dL_law_569 1469 (by decide) ?_
  exact k _ _ hI2
theorem law_10 {X : Lx} {Inv : St → St → Prop} (hc : ca_10 Inv) (g : LOk X) {C M : St} (hI : Inv C M) {i : Int} (hi : 0 ≤ i ∧ i + 6 ≤ lL X) (k : ∀ C' M', Inv C' M' → Lg X C' M' 1469 (LV X i) []) : Lg X C M 574 (LV X i) [] := by
  obtain ⟨v, C', M', hC, hM, hI2⟩ := hc C M (sv X (i + 1).toNat) (sv X (i + 2).toNat) hI (sv_in X _) (sv_in X _)
  refine l_aload (lv := LV X i) g dL_law_574 rfl ?_
  refine l_arg (j := 1) g ⟨hi.1, by omega, by decide⟩ dL_law_575 dL_law_576 dL_law_577 dL_law_578 dL_law_579 ?_
  refine l_arg (j := 2) g ⟨hi.1, by omega, by decide⟩ dL_law_580 dL_law_581 dL_law_582 dL_law_583 dL_law_584 ?_
  refine l_callC (u := (v, C')) (as := fun _ => [vi (sv X (i + 1).toNat), vi (sv X (i + 2).toNat)]) g (kX5_push C (sv X (i + 1).toNat) (sv X (i + 2).toNat)) hC mX5_push rfl w_451 w_452 w_453 (by decide) (fun _ => rfl) rfl (Nat.le_of_ble_eq_true rfl) dL_law_585 ?_
  refine l_aload (lv := LV X i) g dL_law_588 rfl ?_
  refine l_arg (j := 1) g ⟨hi.1, by omega, by decide⟩ dL_law_589 dL_law_590 dL_law_591 dL_law_592 dL_law_593 ?_
  refine l_arg (j := 2) g ⟨hi.1, by omega, by decide⟩ dL_law_594 dL_law_595 dL_law_596 dL_law_597 dL_law_598 ?_
  refine l_callM (u := (v, M')) (as := fun _ => [vi (sv X (i + 1).toNat), vi (sv X (i + 2).toNat)]) g (kX6_push M (sv X (i + 1).toNat) (sv X (i + 2).toNat)) hM mX6_push rfl w_1137 w_1138 w_1139 (by decide) (fun _ => rfl) rfl (Nat.le_of_ble_eq_true rfl) dL_law_599 ?_
  refine l_eqI g dL_law_602 1469 (by decide) ?_
  exact k _ _ hI2
theorem law_11 {X : Lx} {Inv : St → St → Prop} (hc : ca_11 Inv) (g : LOk X) {C M : St} (hI : Inv C M) {i : Int} (hi : 0 ≤ i ∧ i + 6 ≤ lL X) (k : ∀ C' M', Inv C' M' → Lg X C' M' 1469 (LV X i) []) : Lg X C M 607 (LV X i) [] := by
  obtain ⟨v, C', M', hC, hM, hI2⟩ := hc C M (sv X (i + 1).toNat) (sv X (i + 2).toNat) (sv X (i + 3).toNat) (sv X (i + 4).toNat) (sv X (i + 5).toNat) hI (sv_in X _) (sv_in X _) (sv_in X _) (sv_in X _) (sv_in X _)
  refine l_aload (lv := LV X i) g dL_law_607 rfl ?_
  refine l_arg (j := 1) g ⟨hi.1, by omega, by decide⟩ dL_law_608 dL_law_609 dL_law_610 dL_law_611 dL_law_612 ?_
  refine l_arg (j := 2) g ⟨hi.1, by omega, by decide⟩ dL_law_613 dL_law_614 dL_law_615 dL_law_616 dL_law_617 ?_
  refine l_arg (j := 3) g ⟨hi.1, by omega, by decide⟩ dL_law_618 dL_law_619 dL_law_620 dL_law_621 dL_law_622 ?_
  refine l_arg (j := 4) g ⟨hi.1, by omega, by decide⟩ dL_law_623 dL_law_624 dL_law_625 dL_law_626 dL_law_627 ?_
  refine l_arg (j := 5) g ⟨hi.1, by omega, by decide⟩ dL_law_628 dL_law_629 dL_law_630 dL_law_631 dL_law_632 ?_
  refine l_callC (u := (v, C')) (as := fun _ => [vi (sv X (i + 1).toNat), vi (sv X (i + 2).toNat), vi (sv X (i + 3).toNat), vi (sv X (i + 4).toNat), vi (sv X (i + 5).toNat)]) g (kX5_seal C (sv X (i + 1).toNat) (sv X (i + 2).toNat) (sv X (i + 3).toNat) (sv X (i + 4).toNat) (sv X (i + 5).toNat)) hC mX5_seal rfl w_484 w_485 w_486 (by decide) (fun _ => rfl) rfl (Nat.le_of_ble_eq_true rfl) dL_law_633 ?_
  refine l_aload (lv := LV X i) g dL_law_636 rfl ?_
  refine l_arg (j := 1) g ⟨hi.1, by omega, by decide⟩ dL_law_637 dL_law_638 dL_law_639 dL_law_640 dL_law_641 ?_
  refine l_arg (j := 2) g ⟨hi.1, by omega, by decide⟩ dL_law_642 dL_law_643 dL_law_644 dL_law_645 dL_law_646 ?_
  refine l_arg (j := 3) g ⟨hi.1, by omega, by decide⟩ dL_law_647 dL_law_648 dL_law_649 dL_law_650 dL_law_651 ?_
  refine l_arg (j := 4) g ⟨hi.1, by omega, by decide⟩ dL_law_652 dL_law_653 dL_law_654 dL_law_655 dL_law_656 ?_
  refine l_arg (j := 5) g ⟨hi.1, by omega, by decide⟩ dL_law_657 dL_law_658 dL_law_659 dL_law_660 dL_law_661 ?_
  refine l_callM (u := (v, M')) (as := fun _ => [vi (sv X (i + 1).toNat), vi (sv X (i + 2).toNat), vi (sv X (i + 3).toNat), vi (sv X (i + 4).toNat), vi (sv X (i + 5).toNat)]) g (kX6_seal M (sv X (i + 1).toNat) (sv X (i + 2).toNat) (sv X (i + 3).toNat) (sv X (i + 4).toNat) (sv X (i + 5).toNat)) hM mX6_seal rfl w_1164 w_1165 w_1166 (by decide) (fun _ => rfl) rfl (Nat.le_of_ble_eq_true rfl) dL_law_662 ?_
  refine l_eqI g dL_law_665 1469 (by decide) ?_
  exact k _ _ hI2
theorem law_12 {X : Lx} {Inv : St → St → Prop} (hc : ca_12 Inv) (g : LOk X) {C M : St} (hI : Inv C M) {i : Int} (hi : 0 ≤ i ∧ i + 6 ≤ lL X) (k : ∀ C' M', Inv C' M' → Lg X C' M' 1469 (LV X i) []) : Lg X C M 670 (LV X i) [] := by
  obtain ⟨v, C', M', hC, hM, hI2⟩ := hc C M (sv X (i + 1).toNat) hI (sv_in X _)
  refine l_aload (lv := LV X i) g dL_law_670 rfl ?_
  refine l_arg (j := 1) g ⟨hi.1, by omega, by decide⟩ dL_law_671 dL_law_672 dL_law_673 dL_law_674 dL_law_675 ?_
  refine l_callC (u := (v, C')) (as := fun _ => [vi (sv X (i + 1).toNat)]) g (kX5_take C (sv X (i + 1).toNat)) hC mX5_take rfl w_495 w_496 w_497 (by decide) (fun _ => rfl) rfl (Nat.le_of_ble_eq_true rfl) dL_law_676 ?_
  refine l_aload (lv := LV X i) g dL_law_679 rfl ?_
  refine l_arg (j := 1) g ⟨hi.1, by omega, by decide⟩ dL_law_680 dL_law_681 dL_law_682 dL_law_683 dL_law_684 ?_
  refine l_callM (u := (v, M')) (as := fun _ => [vi (sv X (i + 1).toNat)]) g (kX6_take M (sv X (i + 1).toNat)) hM mX6_take rfl w_1171 w_1172 w_1173 (by decide) (fun _ => rfl) rfl (Nat.le_of_ble_eq_true rfl) dL_law_685 ?_
  refine l_eqI g dL_law_688 1469 (by decide) ?_
  exact k _ _ hI2
theorem law_13 {X : Lx} {Inv : St → St → Prop} (hc : ca_13 Inv) (g : LOk X) {C M : St} (hI : Inv C M) {i : Int} (hi : 0 ≤ i ∧ i + 6 ≤ lL X) (k : ∀ C' M', Inv C' M' → Lg X C' M' 1469 (LV X i) []) : Lg X C M 693 (LV X i) [] := by
  obtain ⟨v, C', M', hC, hM, hI2⟩ := hc C M (sv X (i + 1).toNat) (sv X (i + 2).toNat) hI (sv_in X _) (sv_in X _)
  refine l_aload (lv := LV X i) g dL_law_693 rfl ?_
  refine l_arg (j := 1) g ⟨hi.1, by omega, by decide⟩ dL_law_694 dL_law_695 dL_law_696 dL_law_697 dL_law_698 ?_
  refine l_arg (j := 2) g ⟨hi.1, by omega, by decide⟩ dL_law_699 dL_law_700 dL_law_701 dL_law_702 dL_law_703 ?_
  refine l_callC (u := (v, C')) (as := fun _ => [vi (sv X (i + 1).toNat), vi (sv X (i + 2).toNat)]) g (kX5_depth C (sv X (i + 1).toNat) (sv X (i + 2).toNat)) hC mX5_depth rfl w_503 w_504 w_505 (by decide) (fun _ => rfl) rfl (Nat.le_of_ble_eq_true rfl) dL_law_704 ?_
  refine l_aload (lv := LV X i) g dL_law_707 rfl ?_
  refine l_arg (j := 1) g ⟨hi.1, by omega, by decide⟩ dL_law_708 dL_law_709 dL_law_710 dL_law_711 dL_law_712 ?_
  refine l_arg (j := 2) g ⟨hi.1, by omega, by decide⟩ dL_law_713 dL_law_714 dL_law_715 dL_law_716 dL_law_717 ?_
  refine l_callM (u := (v, M')) (as := fun _ => [vi (sv X (i + 1).toNat), vi (sv X (i + 2).toNat)]) g (kX6_depth M (sv X (i + 1).toNat) (sv X (i + 2).toNat)) hM mX6_depth rfl w_1183 w_1184 w_1185 (by decide) (fun _ => rfl) rfl (Nat.le_of_ble_eq_true rfl) dL_law_718 ?_
  refine l_eqI g dL_law_721 1469 (by decide) ?_
  exact k _ _ hI2
theorem law_14 {X : Lx} {Inv : St → St → Prop} (hc : ca_14 Inv) (g : LOk X) {C M : St} (hI : Inv C M) {i : Int} (hi : 0 ≤ i ∧ i + 6 ≤ lL X) (k : ∀ C' M', Inv C' M' → Lg X C' M' 1469 (LV X i) []) : Lg X C M 726 (LV X i) [] := by
  obtain ⟨v, C', M', hC, hM, hI2⟩ := hc C M (sv X (i + 1).toNat) (sv X (i + 2).toNat) hI (sv_in X _) (sv_in X _)
  refine l_aload (lv := LV X i) g dL_law_726 rfl ?_
  refine l_arg (j := 1) g ⟨hi.1, by omega, by decide⟩ dL_law_727 dL_law_728 dL_law_729 dL_law_730 dL_law_731 ?_
  refine l_arg (j := 2) g ⟨hi.1, by omega, by decide⟩ dL_law_732 dL_law_733 dL_law_734 dL_law_735 dL_law_736 ?_
  refine l_callC (u := (v, C')) (as := fun _ => [vi (sv X (i + 1).toNat), vi (sv X (i + 2).toNat)]) g (kX5_stretch C (sv X (i + 1).toNat) (sv X (i + 2).toNat)) hC mX5_stretch rfl w_507 w_508 w_509 (by decide) (fun _ => rfl) rfl (Nat.le_of_ble_eq_true rfl) dL_law_737 ?_
  refine l_aload (lv := LV X i) g dL_law_740 rfl ?_
  refine l_arg (j := 1) g ⟨hi.1, by omega, by decide⟩ dL_law_741 dL_law_742 dL_law_743 dL_law_744 dL_law_745 ?_
  refine l_arg (j := 2) g ⟨hi.1, by omega, by decide⟩ dL_law_746 dL_law_747 dL_law_748 dL_law_749 dL_law_750 ?_
  refine l_callM (u := (v, M')) (as := fun _ => [vi (sv X (i + 1).toNat), vi (sv X (i + 2).toNat)]) g (kX6_stretch M (sv X (i + 1).toNat) (sv X (i + 2).toNat)) hM mX6_stretch rfl w_1187 w_1188 w_1189 (by decide) (fun _ => rfl) rfl (Nat.le_of_ble_eq_true rfl) dL_law_751 ?_
  refine l_eqI g dL_law_754 1469 (by decide) ?_
  exact k _ _ hI2
theorem law_15 {X : Lx} {Inv : St → St → Prop} (hc : ca_15 Inv) (g : LOk X) {C M : St} (hI : Inv C M) {i : Int} (hi : 0 ≤ i ∧ i + 6 ≤ lL X) (k : ∀ C' M', Inv C' M' → Lg X C' M' 1469 (LV X i) []) : Lg X C M 759 (LV X i) [] := by
  obtain ⟨v, C', M', hC, hM, hI2⟩ := hc C M (sv X (i + 1).toNat) (sv X (i + 2).toNat) hI (sv_in X _) (sv_in X _)
  refine l_aload (lv := LV X i) g dL_law_759 rfl ?_
  refine l_arg (j := 1) g ⟨hi.1, by omega, by decide⟩ dL_law_760 dL_law_761 dL_law_762 dL_law_763 dL_law_764 ?_
  refine l_arg (j := 2) g ⟨hi.1, by omega, by decide⟩ dL_law_765 dL_law_766 dL_law_767 dL_law_768 dL_law_769 ?_
  refine l_callC (u := (v, C')) (as := fun _ => [vi (sv X (i + 1).toNat), vi (sv X (i + 2).toNat)]) g (kX5_told C (sv X (i + 1).toNat) (sv X (i + 2).toNat)) hC mX5_told rfl w_523 w_524 w_525 (by decide) (fun _ => rfl) rfl (Nat.le_of_ble_eq_true rfl) dL_law_770 ?_
  refine l_aload (lv := LV X i) g dL_law_773 rfl ?_
  refine l_arg (j := 1) g ⟨hi.1, by omega, by decide⟩ dL_law_774 dL_law_775 dL_law_776 dL_law_777 dL_law_778 ?_
  refine l_arg (j := 2) g ⟨hi.1, by omega, by decide⟩ dL_law_779 dL_law_780 dL_law_781 dL_law_782 dL_law_783 ?_
  refine l_callM (u := (v, M')) (as := fun _ => [vi (sv X (i + 1).toNat), vi (sv X (i + 2).toNat)]) g (kX6_told M (sv X (i + 1).toNat) (sv X (i + 2).toNat)) hM mX6_told rfl w_1198 w_1199 w_1200 (by decide) (fun _ => rfl) rfl (Nat.le_of_ble_eq_true rfl) dL_law_784 ?_
  refine l_eqI g dL_law_787 1469 (by decide) ?_
  exact k _ _ hI2
theorem law_16 {X : Lx} {Inv : St → St → Prop} (hc : ca_16 Inv) (g : LOk X) {C M : St} (hI : Inv C M) {i : Int} (hi : 0 ≤ i ∧ i + 6 ≤ lL X) (k : ∀ C' M', Inv C' M' → Lg X C' M' 1469 (LV X i) []) : Lg X C M 792 (LV X i) [] := by
  obtain ⟨v, C', M', hC, hM, hI2⟩ := hc C M (sv X (i + 1).toNat) (sv X (i + 2).toNat) hI (sv_in X _) (sv_in X _)
  refine l_aload (lv := LV X i) g dL_law_792 rfl ?_
  refine l_arg (j := 1) g ⟨hi.1, by omega, by decide⟩ dL_law_793 dL_law_794 dL_law_795 dL_law_796 dL_law_797 ?_
  refine l_arg (j := 2) g ⟨hi.1, by omega, by decide⟩ dL_law_798 dL_law_799 dL_law_800 dL_law_801 dL_law_802 ?_
  refine l_callC (u := (v, C')) (as := fun _ => [vi (sv X (i + 1).toNat), vi (sv X (i + 2).toNat)]) g (kX5_mark C (sv X (i + 1).toNat) (sv X (i + 2).toNat)) hC mX5_mark rfl w_531 w_532 w_533 (by decide) (fun _ => rfl) rfl (Nat.le_of_ble_eq_true rfl) dL_law_803 ?_
  refine l_aload (lv := LV X i) g dL_law_806 rfl ?_
  refine l_arg (j := 1) g ⟨hi.1, by omega, by decide⟩ dL_law_807 dL_law_808 dL_law_809 dL_law_810 dL_law_811 ?_
  refine l_arg (j := 2) g ⟨hi.1, by omega, by decide⟩ dL_law_812 dL_law_813 dL_law_814 dL_law_815 dL_law_816 ?_
  refine l_callM (u := (v, M')) (as := fun _ => [vi (sv X (i + 1).toNat), vi (sv X (i + 2).toNat)]) g (kX6_mark M (sv X (i + 1).toNat) (sv X (i + 2).toNat)) hM mX6_mark rfl w_1206 w_1207 w_1208 (by decide) (fun _ => rfl) rfl (Nat.le_of_ble_eq_true rfl) dL_law_817 ?_
  refine l_eqI g dL_law_820 1469 (by decide) ?_
  exact k _ _ hI2
theorem law_17 {X : Lx} {Inv : St → St → Prop} (hc : ca_17 Inv) (g : LOk X) {C M : St} (hI : Inv C M) {i : Int} (hi : 0 ≤ i ∧ i + 6 ≤ lL X) (k : ∀ C' M', Inv C' M' → Lg X C' M' 1469 (LV X i) []) : Lg X C M 825 (LV X i) [] := by
  obtain ⟨v, C', M', hC, hM, hI2⟩ := hc C M (sv X (i + 1).toNat) (sv X (i + 2).toNat) hI (sv_in X _) (sv_in X _)
  refine l_aload (lv := LV X i) g dL_law_825 rfl ?_
  refine l_arg (j := 1) g ⟨hi.1, by omega, by decide⟩ dL_law_826 dL_law_827 dL_law_828 dL_law_829 dL_law_830 ?_
  refine l_arg (j := 2) g ⟨hi.1, by omega, by decide⟩ dL_law_831 dL_law_832 dL_law_833 dL_law_834 dL_law_835 ?_
  refine l_callC (u := (v, C')) (as := fun _ => [vi (sv X (i + 1).toNat), vi (sv X (i + 2).toNat)]) g (kX5_let C (sv X (i + 1).toNat) (sv X (i + 2).toNat)) hC mX5_let rfl w_539 w_540 w_541 (by decide) (fun _ => rfl) rfl (Nat.le_of_ble_eq_true rfl) dL_law_836 ?_
  refine l_aload (lv := LV X i) g dL_law_839 rfl ?_
  refine l_arg (j := 1) g ⟨hi.1, by omega, by decide⟩ dL_law_840 dL_law_841 dL_law_842 dL_law_843 dL_law_844 ?_
  refine l_arg (j := 2) g ⟨hi.1, by omega, by decide⟩ dL_law_845 dL_law_846 dL_law_847 dL_law_848 dL_law_849 ?_
  refine l_callM (u := (v, M')) (as := fun _ => [vi (sv X (i + 1).toNat), vi (sv X (i + 2).toNat)]) g (kX6_let M (sv X (i + 1).toNat) (sv X (i + 2).toNat)) hM mX6_let rfl w_1214 w_1215 w_1216 (by decide) (fun _ => rfl) rfl (Nat.le_of_ble_eq_true rfl) dL_law_850 ?_
  refine l_eqI g dL_law_853 1469 (by decide) ?_
  exact k _ _ hI2
theorem law_18 {X : Lx} {Inv : St → St → Prop} (hc : ca_18 Inv) (g : LOk X) {C M : St} (hI : Inv C M) {i : Int} (hi : 0 ≤ i ∧ i + 6 ≤ lL X) (k : ∀ C' M', Inv C' M' → Lg X C' M' 1469 (LV X i) []) : Lg X C M 858 (LV X i) [] := by
  obtain ⟨v, C', M', hC, hM, hI2⟩ := hc C M  hI 
  refine l_aload (lv := LV X i) g dL_law_858 rfl ?_
  refine l_callC (u := (v, C')) (as := fun _ => []) g (kX5_rest C) hC mX5_rest rfl w_545 w_546 w_547 (by decide) (fun _ => rfl) rfl (Nat.le_of_ble_eq_true rfl) dL_law_859 ?_
  refine l_aload (lv := LV X i) g dL_law_862 rfl ?_
  refine l_callM (u := (v, M')) (as := fun _ => []) g (kX6_rest M) hM mX6_rest rfl w_1219 w_1220 w_1221 (by decide) (fun _ => rfl) rfl (Nat.le_of_ble_eq_true rfl) dL_law_863 ?_
  refine l_eqI g dL_law_866 1469 (by decide) ?_
  exact k _ _ hI2
theorem law_19 {X : Lx} {Inv : St → St → Prop} (hc : ca_19 Inv) (g : LOk X) {C M : St} (hI : Inv C M) {i : Int} (hi : 0 ≤ i ∧ i + 6 ≤ lL X) (k : ∀ C' M', Inv C' M' → Lg X C' M' 1469 (LV X i) []) : Lg X C M 871 (LV X i) [] := by
  obtain ⟨v, C', M', hC, hM, hI2⟩ := hc C M (sv X (i + 1).toNat) hI (sv_in X _)
  refine l_aload (lv := LV X i) g dL_law_871 rfl ?_
  refine l_arg (j := 1) g ⟨hi.1, by omega, by decide⟩ dL_law_872 dL_law_873 dL_law_874 dL_law_875 dL_law_876 ?_
  refine l_callC (u := (v, C')) (as := fun _ => [vi (sv X (i + 1).toNat)]) g (kX5_press C (sv X (i + 1).toNat)) hC mX5_press rfl w_620 w_621 w_622 (by decide) (fun _ => rfl) rfl (Nat.le_of_ble_eq_true rfl) dL_law_877 ?_
  refine l_aload (lv := LV X i) g dL_law_880 rfl ?_
  refine l_arg (j := 1) g ⟨hi.1, by omega, by decide⟩ dL_law_881 dL_law_882 dL_law_883 dL_law_884 dL_law_885 ?_
  refine l_callM (u := (v, M')) (as := fun _ => [vi (sv X (i + 1).toNat)]) g (kX6_press M (sv X (i + 1).toNat)) hM mX6_press rfl w_1247 w_1248 w_1249 (by decide) (fun _ => rfl) rfl (Nat.le_of_ble_eq_true rfl) dL_law_886 ?_
  refine l_eqI g dL_law_889 1469 (by decide) ?_
  exact k _ _ hI2
theorem law_20 {X : Lx} {Inv : St → St → Prop} (hc : ca_20 Inv) (g : LOk X) {C M : St} (hI : Inv C M) {i : Int} (hi : 0 ≤ i ∧ i + 6 ≤ lL X) (k : ∀ C' M', Inv C' M' → Lg X C' M' 1469 (LV X i) []) : Lg X C M 894 (LV X i) [] := by
  obtain ⟨v, C', M', hC, hM, hI2⟩ := hc C M  hI 
  refine l_aload (lv := LV X i) g dL_law_894 rfl ?_
  refine l_callC (u := (v, C')) (as := fun _ => []) g (kX5_opens C) hC mX5_opens rfl w_633 w_634 w_635 (by decide) (fun _ => rfl) rfl (Nat.le_of_ble_eq_true rfl) dL_law_895 ?_
  refine l_aload (lv := LV X i) g dL_law_898 rfl ?_
  refine l_callM (u := (v, M')) (as := fun _ => []) g (kX6_opens M) hM mX6_opens rfl w_1263 w_1264 w_1265 (by decide) (fun _ => rfl) rfl (Nat.le_of_ble_eq_true rfl) dL_law_899 ?_
  refine l_eqI g dL_law_902 1469 (by decide) ?_
  exact k _ _ hI2
theorem law_21 {X : Lx} {Inv : St → St → Prop} (hc : ca_21 Inv) (g : LOk X) {C M : St} (hI : Inv C M) {i : Int} (hi : 0 ≤ i ∧ i + 6 ≤ lL X) (k : ∀ C' M', Inv C' M' → Lg X C' M' 1469 (LV X i) []) : Lg X C M 907 (LV X i) [] := by
  obtain ⟨v, C', M', hC, hM, hI2⟩ := hc C M  hI 
  refine l_aload (lv := LV X i) g dL_law_907 rfl ?_
  refine l_callC (u := (v, C')) (as := fun _ => []) g (kX5_weakest C) hC mX5_weakest rfl w_642 w_643 w_644 (by decide) (fun _ => rfl) rfl (Nat.le_of_ble_eq_true rfl) dL_law_908 ?_
  refine l_aload (lv := LV X i) g dL_law_911 rfl ?_
  refine l_callM (u := (v, M')) (as := fun _ => []) g (kX6_weakest M) hM mX6_weakest rfl w_1271 w_1272 w_1273 (by decide) (fun _ => rfl) rfl (Nat.le_of_ble_eq_true rfl) dL_law_912 ?_
  refine l_eqI g dL_law_915 1469 (by decide) ?_
  exact k _ _ hI2
theorem law_22 {X : Lx} {Inv : St → St → Prop} (hc : ca_22 Inv) (g : LOk X) {C M : St} (hI : Inv C M) {i : Int} (hi : 0 ≤ i ∧ i + 6 ≤ lL X) (k : ∀ C' M', Inv C' M' → Lg X C' M' 1469 (LV X i) []) : Lg X C M 920 (LV X i) [] := by
  obtain ⟨v, C', M', hC, hM, hI2⟩ := hc C M  hI 
  refine l_aload (lv := LV X i) g dL_law_920 rfl ?_
  refine l_callC (u := (v, C')) (as := fun _ => []) g (kX5_leak C) hC mX5_leak rfl w_654 w_655 w_656 (by decide) (fun _ => rfl) rfl (Nat.le_of_ble_eq_true rfl) dL_law_921 ?_
  refine l_aload (lv := LV X i) g dL_law_924 rfl ?_
  refine l_callM (u := (v, M')) (as := fun _ => []) g (kX6_leak M) hM mX6_leak rfl w_1278 w_1279 w_1280 (by decide) (fun _ => rfl) rfl (Nat.le_of_ble_eq_true rfl) dL_law_925 ?_
  refine l_eqI g dL_law_928 1469 (by decide) ?_
  exact k _ _ hI2
theorem law_23 {X : Lx} {Inv : St → St → Prop} (hc : ca_23 Inv) (g : LOk X) {C M : St} (hI : Inv C M) {i : Int} (hi : 0 ≤ i ∧ i + 6 ≤ lL X) (k : ∀ C' M', Inv C' M' → Lg X C' M' 1469 (LV X i) []) : Lg X C M 933 (LV X i) [] := by
  obtain ⟨v, C', M', hC, hM, hI2⟩ := hc C M (sv X (i + 1).toNat) hI (sv_in X _)
  refine l_aload (lv := LV X i) g dL_law_933 rfl ?_
  refine l_arg (j := 1) g ⟨hi.1, by omega, by decide⟩ dL_law_934 dL_law_935 dL_law_936 dL_law_937 dL_law_938 ?_
  refine l_callC (u := (v, C')) (as := fun _ => [vi (sv X (i + 1).toNat)]) g (kX5_through C (sv X (i + 1).toNat)) hC mX5_through rfl w_662 w_663 w_664 (by decide) (fun _ => rfl) rfl (Nat.le_of_ble_eq_true rfl) dL_law_939 ?_
  refine l_aload (lv := LV X i) g dL_law_942 rfl ?_
  refine l_arg (j := 1) g ⟨hi.1, by omega, by decide⟩ dL_law_943 dL_law_944 dL_law_945 dL_law_946 dL_law_947 ?_
  refine l_callM (u := (v, M')) (as := fun _ => [vi (sv X (i + 1).toNat)]) g (kX6_through M (sv X (i + 1).toNat)) hM mX6_through rfl w_1285 w_1286 w_1287 (by decide) (fun _ => rfl) rfl (Nat.le_of_ble_eq_true rfl) dL_law_948 ?_
  refine l_eqI g dL_law_951 1469 (by decide) ?_
  exact k _ _ hI2
theorem law_24 {X : Lx} {Inv : St → St → Prop} (hc : ca_24 Inv) (g : LOk X) {C M : St} (hI : Inv C M) {i : Int} (hi : 0 ≤ i ∧ i + 6 ≤ lL X) (k : ∀ C' M', Inv C' M' → Lg X C' M' 1469 (LV X i) []) : Lg X C M 956 (LV X i) [] := by
  obtain ⟨v, C', M', hC, hM, hI2⟩ := hc C M (sv X (i + 1).toNat) hI (sv_in X _)
  refine l_aload (lv := LV X i) g dL_law_956 rfl ?_
  refine l_arg (j := 1) g ⟨hi.1, by omega, by decide⟩ dL_law_957 dL_law_958 dL_law_959 dL_law_960 dL_law_961 ?_
  refine l_callC (u := (v, C')) (as := fun _ => [vi (sv X (i + 1).toNat)]) g (kX5_age C (sv X (i + 1).toNat)) hC mX5_age rfl w_667 w_668 w_669 (by decide) (fun _ => rfl) rfl (Nat.le_of_ble_eq_true rfl) dL_law_962 ?_
  refine l_aload (lv := LV X i) g dL_law_965 rfl ?_
  refine l_arg (j := 1) g ⟨hi.1, by omega, by decide⟩ dL_law_966 dL_law_967 dL_law_968 dL_law_969 dL_law_970 ?_
  refine l_callM (u := (v, M')) (as := fun _ => [vi (sv X (i + 1).toNat)]) g (kX6_age M (sv X (i + 1).toNat)) hM mX6_age rfl w_1289 w_1290 w_1291 (by decide) (fun _ => rfl) rfl (Nat.le_of_ble_eq_true rfl) dL_law_971 ?_
  refine l_eqI g dL_law_974 1469 (by decide) ?_
  exact k _ _ hI2
theorem law_25 {X : Lx} {Inv : St → St → Prop} (hc : ca_25 Inv) (g : LOk X) {C M : St} (hI : Inv C M) {i : Int} (hi : 0 ≤ i ∧ i + 6 ≤ lL X) (k : ∀ C' M', Inv C' M' → Lg X C' M' 1469 (LV X i) []) : Lg X C M 979 (LV X i) [] := by
  obtain ⟨v, C', M', hC, hM, hI2⟩ := hc C M  hI 
  refine l_aload (lv := LV X i) g dL_law_979 rfl ?_
  refine l_callC (u := (v, C')) (as := fun _ => []) g (kX5_swell C) hC mX5_swell rfl w_674 w_675 w_676 (by decide) (fun _ => rfl) rfl (Nat.le_of_ble_eq_true rfl) dL_law_980 ?_
  refine l_aload (lv := LV X i) g dL_law_983 rfl ?_
  refine l_callM (u := (v, M')) (as := fun _ => []) g (kX6_swell M) hM mX6_swell rfl w_1294 w_1295 w_1296 (by decide) (fun _ => rfl) rfl (Nat.le_of_ble_eq_true rfl) dL_law_984 ?_
  refine l_eqI g dL_law_987 1469 (by decide) ?_
  exact k _ _ hI2
theorem law_26 {X : Lx} {Inv : St → St → Prop} (hc : ca_26 Inv) (g : LOk X) {C M : St} (hI : Inv C M) {i : Int} (hi : 0 ≤ i ∧ i + 6 ≤ lL X) (k : ∀ C' M', Inv C' M' → Lg X C' M' 1469 (LV X i) []) : Lg X C M 992 (LV X i) [] := by
  obtain ⟨v, C', M', hC, hM, hI2⟩ := hc C M (sv X (i + 1).toNat) hI (sv_in X _)
  refine l_aload (lv := LV X i) g dL_law_992 rfl ?_
  refine l_arg (j := 1) g ⟨hi.1, by omega, by decide⟩ dL_law_993 dL_law_994 dL_law_995 dL_law_996 dL_law_997 ?_
  refine l_callC (u := (v, C')) (as := fun _ => [vi (sv X (i + 1).toNat)]) g (kX5_renew C (sv X (i + 1).toNat)) hC mX5_renew rfl w_678 w_679 w_680 (by decide) (fun _ => rfl) rfl (Nat.le_of_ble_eq_true rfl) dL_law_998 ?_
  refine l_aload (lv := LV X i) g dL_law_1001 rfl ?_
  refine l_arg (j := 1) g ⟨hi.1, by omega, by decide⟩ dL_law_1002 dL_law_1003 dL_law_1004 dL_law_1005 dL_law_1006 ?_
  refine l_callM (u := (v, M')) (as := fun _ => [vi (sv X (i + 1).toNat)]) g (kX6_renew M (sv X (i + 1).toNat)) hM mX6_renew rfl w_1302 w_1303 w_1304 (by decide) (fun _ => rfl) rfl (Nat.le_of_ble_eq_true rfl) dL_law_1007 ?_
  refine l_eqI g dL_law_1010 1469 (by decide) ?_
  exact k _ _ hI2
theorem law_27 {X : Lx} {Inv : St → St → Prop} (hc : ca_27 Inv) (g : LOk X) {C M : St} (hI : Inv C M) {i : Int} (hi : 0 ≤ i ∧ i + 6 ≤ lL X) (k : ∀ C' M', Inv C' M' → Lg X C' M' 1469 (LV X i) []) : Lg X C M 1015 (LV X i) [] := by
  obtain ⟨v, C', M', hC, hM, hI2⟩ := hc C M (sv X (i + 1).toNat) hI (sv_in X _)
  refine l_aload (lv := LV X i) g dL_law_1015 rfl ?_
  refine l_arg (j := 1) g ⟨hi.1, by omega, by decide⟩ dL_law_1016 dL_law_1017 dL_law_1018 dL_law_1019 dL_law_1020 ?_
  refine l_callC (u := (v, C')) (as := fun _ => [vi (sv X (i + 1).toNat)]) g (kX5_blown C (sv X (i + 1).toNat)) hC mX5_blown rfl w_682 w_683 w_684 (by decide) (fun _ => rfl) rfl (Nat.le_of_ble_eq_true rfl) dL_law_1021 ?_
  refine l_aload (lv := LV X i) g dL_law_1024 rfl ?_
  refine l_arg (j := 1) g ⟨hi.1, by omega, by decide⟩ dL_law_1025 dL_law_1026 dL_law_1027 dL_law_1028 dL_law_1029 ?_
  refine l_callM (u := (v, M')) (as := fun _ => [vi (sv X (i + 1).toNat)]) g (kX6_blown M (sv X (i + 1).toNat)) hM mX6_blown rfl w_1306 w_1307 w_1308 (by decide) (fun _ => rfl) rfl (Nat.le_of_ble_eq_true rfl) dL_law_1030 ?_
  refine l_eqI g dL_law_1033 1469 (by decide) ?_
  exact k _ _ hI2
theorem law_28 {X : Lx} {Inv : St → St → Prop} (hc : ca_28 Inv) (g : LOk X) {C M : St} (hI : Inv C M) {i : Int} (hi : 0 ≤ i ∧ i + 6 ≤ lL X) (k : ∀ C' M', Inv C' M' → Lg X C' M' 1469 (LV X i) []) : Lg X C M 1038 (LV X i) [] := by
  obtain ⟨v, C', M', hC, hM, hI2⟩ := hc C M (sv X (i + 1).toNat) (sv X (i + 2).toNat) (sv X (i + 3).toNat) hI (sv_in X _) (sv_in X _) (sv_in X _)
  refine l_aload (lv := LV X i) g dL_law_1038 rfl ?_
  refine l_arg (j := 1) g ⟨hi.1, by omega, by decide⟩ dL_law_1039 dL_law_1040 dL_law_1041 dL_law_1042 dL_law_1043 ?_
  refine l_arg (j := 2) g ⟨hi.1, by omega, by decide⟩ dL_law_1044 dL_law_1045 dL_law_1046 dL_law_1047 dL_law_1048 ?_
  refine l_arg (j := 3) g ⟨hi.1, by omega, by decide⟩ dL_law_1049 dL_law_1050 dL_law_1051 dL_law_1052 dL_law_1053 ?_
  refine l_callC (u := (v, C')) (as := fun _ => [vi (sv X (i + 1).toNat), vi (sv X (i + 2).toNat), vi (sv X (i + 3).toNat)]) g (kX5_ends C (sv X (i + 1).toNat) (sv X (i + 2).toNat) (sv X (i + 3).toNat)) hC mX5_ends rfl w_686 w_687 w_688 (by decide) (fun _ => rfl) rfl (Nat.le_of_ble_eq_true rfl) dL_law_1054 ?_
  refine l_aload (lv := LV X i) g dL_law_1057 rfl ?_
  refine l_arg (j := 1) g ⟨hi.1, by omega, by decide⟩ dL_law_1058 dL_law_1059 dL_law_1060 dL_law_1061 dL_law_1062 ?_
  refine l_arg (j := 2) g ⟨hi.1, by omega, by decide⟩ dL_law_1063 dL_law_1064 dL_law_1065 dL_law_1066 dL_law_1067 ?_
  refine l_arg (j := 3) g ⟨hi.1, by omega, by decide⟩ dL_law_1068 dL_law_1069 dL_law_1070 dL_law_1071 dL_law_1072 ?_
  refine l_callM (u := (v, M')) (as := fun _ => [vi (sv X (i + 1).toNat), vi (sv X (i + 2).toNat), vi (sv X (i + 3).toNat)]) g (kX6_ends M (sv X (i + 1).toNat) (sv X (i + 2).toNat) (sv X (i + 3).toNat)) hM mX6_ends rfl w_1311 w_1312 w_1313 (by decide) (fun _ => rfl) rfl (Nat.le_of_ble_eq_true rfl) dL_law_1073 ?_
  refine l_eqI g dL_law_1076 1469 (by decide) ?_
  exact k _ _ hI2
theorem law_29 {X : Lx} {Inv : St → St → Prop} (hc : ca_29 Inv) (g : LOk X) {C M : St} (hI : Inv C M) {i : Int} (hi : 0 ≤ i ∧ i + 6 ≤ lL X) (k : ∀ C' M', Inv C' M' → Lg X C' M' 1469 (LV X i) []) : Lg X C M 1081 (LV X i) [] := by
  obtain ⟨v, C', M', hC, hM, hI2⟩ := hc C M (sv X (i + 1).toNat) (sv X (i + 2).toNat) hI (sv_in X _) (sv_in X _)
  refine l_aload (lv := LV X i) g dL_law_1081 rfl ?_
  refine l_arg (j := 1) g ⟨hi.1, by omega, by decide⟩ dL_law_1082 dL_law_1083 dL_law_1084 dL_law_1085 dL_law_1086 ?_
  refine l_arg (j := 2) g ⟨hi.1, by omega, by decide⟩ dL_law_1087 dL_law_1088 dL_law_1089 dL_law_1090 dL_law_1091 ?_
  refine l_callC (u := (v, C')) (as := fun _ => [vi (sv X (i + 1).toNat), vi (sv X (i + 2).toNat)]) g (kX5_sure C (sv X (i + 1).toNat) (sv X (i + 2).toNat)) hC mX5_sure rfl w_702 w_703 w_704 (by decide) (fun _ => rfl) rfl (Nat.le_of_ble_eq_true rfl) dL_law_1092 ?_
  refine l_aload (lv := LV X i) g dL_law_1095 rfl ?_
  refine l_arg (j := 1) g ⟨hi.1, by omega, by decide⟩ dL_law_1096 dL_law_1097 dL_law_1098 dL_law_1099 dL_law_1100 ?_
  refine l_arg (j := 2) g ⟨hi.1, by omega, by decide⟩ dL_law_1101 dL_law_1102 dL_law_1103 dL_law_1104 dL_law_1105 ?_
  refine l_callM (u := (v, M')) (as := fun _ => [vi (sv X (i + 1).toNat), vi (sv X (i + 2).toNat)]) g (kX6_sure M (sv X (i + 1).toNat) (sv X (i + 2).toNat)) hM mX6_sure rfl w_1331 w_1332 w_1333 (by decide) (fun _ => rfl) rfl (Nat.le_of_ble_eq_true rfl) dL_law_1106 ?_
  refine l_eqI g dL_law_1109 1469 (by decide) ?_
  exact k _ _ hI2
theorem law_30 {X : Lx} {Inv : St → St → Prop} (hc : ca_30 Inv) (g : LOk X) {C M : St} (hI : Inv C M) {i : Int} (hi : 0 ≤ i ∧ i + 6 ≤ lL X) (k : ∀ C' M', Inv C' M' → Lg X C' M' 1469 (LV X i) []) : Lg X C M 1114 (LV X i) [] := by
  obtain ⟨v, C', M', hC, hM, hI2⟩ := hc C M (sv X (i + 1).toNat) (sv X (i + 2).toNat) (sv X (i + 3).toNat) hI (sv_in X _) (sv_in X _) (sv_in X _)
  refine l_aload (lv := LV X i) g dL_law_1114 rfl ?_
  refine l_arg (j := 1) g ⟨hi.1, by omega, by decide⟩ dL_law_1115 dL_law_1116 dL_law_1117 dL_law_1118 dL_law_1119 ?_
  refine l_arg (j := 2) g ⟨hi.1, by omega, by decide⟩ dL_law_1120 dL_law_1121 dL_law_1122 dL_law_1123 dL_law_1124 ?_
  refine l_arg (j := 3) g ⟨hi.1, by omega, by decide⟩ dL_law_1125 dL_law_1126 dL_law_1127 dL_law_1128 dL_law_1129 ?_
  refine l_callC (u := (v, C')) (as := fun _ => [vi (sv X (i + 1).toNat), vi (sv X (i + 2).toNat), vi (sv X (i + 3).toNat)]) g (kX5_follows C (sv X (i + 1).toNat) (sv X (i + 2).toNat) (sv X (i + 3).toNat)) hC mX5_follows rfl w_706 w_707 w_708 (by decide) (fun _ => rfl) rfl (Nat.le_of_ble_eq_true rfl) dL_law_1130 ?_
  refine l_aload (lv := LV X i) g dL_law_1133 rfl ?_
  refine l_arg (j := 1) g ⟨hi.1, by omega, by decide⟩ dL_law_1134 dL_law_1135 dL_law_1136 dL_law_1137 dL_law_1138 ?_
  refine l_arg (j := 2) g ⟨hi.1, by omega, by decide⟩ dL_law_1139 dL_law_1140 dL_law_1141 dL_law_1142 dL_law_1143 ?_
  refine l_arg (j := 3) g ⟨hi.1, by omega, by decide⟩ dL_law_1144 dL_law_1145 dL_law_1146 dL_law_1147 dL_law_1148 ?_
  refine l_callM (u := (v, M')) (as := fun _ => [vi (sv X (i + 1).toNat), vi (sv X (i + 2).toNat), vi (sv X (i + 3).toNat)]) g (kX6_follows M (sv X (i + 1).toNat) (sv X (i + 2).toNat) (sv X (i + 3).toNat)) hM mX6_follows rfl w_1335 w_1336 w_1337 (by decide) (fun _ => rfl) rfl (Nat.le_of_ble_eq_true rfl) dL_law_1149 ?_
  refine l_eqI g dL_law_1152 1469 (by decide) ?_
  exact k _ _ hI2
theorem law_31 {X : Lx} {Inv : St → St → Prop} (hc : ca_31 Inv) (g : LOk X) {C M : St} (hI : Inv C M) {i : Int} (hi : 0 ≤ i ∧ i + 6 ≤ lL X) (k : ∀ C' M', Inv C' M' → Lg X C' M' 1469 (LV X i) []) : Lg X C M 1157 (LV X i) [] := by
  obtain ⟨v, C', M', hC, hM, hI2⟩ := hc C M (sv X (i + 1).toNat) (sv X (i + 2).toNat) hI (sv_in X _) (sv_in X _)
  refine l_aload (lv := LV X i) g dL_law_1157 rfl ?_
  refine l_arg (j := 1) g ⟨hi.1, by omega, by decide⟩ dL_law_1158 dL_law_1159 dL_law_1160 dL_law_1161 dL_law_1162 ?_
  refine l_arg (j := 2) g ⟨hi.1, by omega, by decide⟩ dL_law_1163 dL_law_1164 dL_law_1165 dL_law_1166 dL_law_1167 ?_
  refine l_callC (u := (v, C')) (as := fun _ => [vi (sv X (i + 1).toNat), vi (sv X (i + 2).toNat)]) g (kX5_strip C (sv X (i + 1).toNat) (sv X (i + 2).toNat)) hC mX5_strip rfl w_712 w_713 w_714 (by decide) (fun _ => rfl) rfl (Nat.le_of_ble_eq_true rfl) dL_law_1168 ?_
  refine l_aload (lv := LV X i) g dL_law_1171 rfl ?_
  refine l_arg (j := 1) g ⟨hi.1, by omega, by decide⟩ dL_law_1172 dL_law_1173 dL_law_1174 dL_law_1175 dL_law_1176 ?_
  refine l_arg (j := 2) g ⟨hi.1, by omega, by decide⟩ dL_law_1177 dL_law_1178 dL_law_1179 dL_law_1180 dL_law_1181 ?_
  refine l_callM (u := (v, M')) (as := fun _ => [vi (sv X (i + 1).toNat), vi (sv X (i + 2).toNat)]) g (kX6_strip M (sv X (i + 1).toNat) (sv X (i + 2).toNat)) hM mX6_strip rfl w_1340 w_1341 w_1342 (by decide) (fun _ => rfl) rfl (Nat.le_of_ble_eq_true rfl) dL_law_1182 ?_
  refine l_eqI g dL_law_1185 1469 (by decide) ?_
  exact k _ _ hI2
theorem law_32 {X : Lx} {Inv : St → St → Prop} (hc : ca_32 Inv) (g : LOk X) {C M : St} (hI : Inv C M) {i : Int} (hi : 0 ≤ i ∧ i + 6 ≤ lL X) (k : ∀ C' M', Inv C' M' → Lg X C' M' 1469 (LV X i) []) : Lg X C M 1190 (LV X i) [] := by
  obtain ⟨v, C', M', hC, hM, hI2⟩ := hc C M (sv X (i + 1).toNat) hI (sv_in X _)
  refine l_aload (lv := LV X i) g dL_law_1190 rfl ?_
  refine l_arg (j := 1) g ⟨hi.1, by omega, by decide⟩ dL_law_1191 dL_law_1192 dL_law_1193 dL_law_1194 dL_law_1195 ?_
  refine l_callC (u := (v, C')) (as := fun _ => [vi (sv X (i + 1).toNat)]) g (kX5_parting C (sv X (i + 1).toNat)) hC mX5_parting rfl w_724 w_725 w_726 (by decide) (fun _ => rfl) rfl (Nat.le_of_ble_eq_true rfl) dL_law_1196 ?_
  refine l_aload (lv := LV X i) g dL_law_1199 rfl ?_
  refine l_arg (j := 1) g ⟨hi.1, by omega, by decide⟩ dL_law_1200 dL_law_1201 dL_law_1202 dL_law_1203 dL_law_1204 ?_
  refine l_callM (u := (v, M')) (as := fun _ => [vi (sv X (i + 1).toNat)]) g (kX6_parting M (sv X (i + 1).toNat)) hM mX6_parting rfl w_1348 w_1349 w_1350 (by decide) (fun _ => rfl) rfl (Nat.le_of_ble_eq_true rfl) dL_law_1205 ?_
  refine l_eqI g dL_law_1208 1469 (by decide) ?_
  exact k _ _ hI2
theorem law_33 {X : Lx} {Inv : St → St → Prop} (hc : ca_33 Inv) (g : LOk X) {C M : St} (hI : Inv C M) {i : Int} (hi : 0 ≤ i ∧ i + 6 ≤ lL X) (k : ∀ C' M', Inv C' M' → Lg X C' M' 1469 (LV X i) []) : Lg X C M 1213 (LV X i) [] := by
  obtain ⟨v, C', M', hC, hM, hI2⟩ := hc C M (sv X (i + 1).toNat) (sv X (i + 2).toNat) (sv X (i + 3).toNat) (sv X (i + 4).toNat) hI (sv_in X _) (sv_in X _) (sv_in X _) (sv_in X _)
  refine l_aload (lv := LV X i) g dL_law_1213 rfl ?_
  refine l_arg (j := 1) g ⟨hi.1, by omega, by decide⟩ dL_law_1214 dL_law_1215 dL_law_1216 dL_law_1217 dL_law_1218 ?_
  refine l_arg (j := 2) g ⟨hi.1, by omega, by decide⟩ dL_law_1219 dL_law_1220 dL_law_1221 dL_law_1222 dL_law_1223 ?_
  refine l_arg (j := 3) g ⟨hi.1, by omega, by decide⟩ dL_law_1224 dL_law_1225 dL_law_1226 dL_law_1227 dL_law_1228 ?_
  refine l_arg (j := 4) g ⟨hi.1, by omega, by decide⟩ dL_law_1229 dL_law_1230 dL_law_1231 dL_law_1232 dL_law_1233 ?_
  refine l_callC (u := (v, C')) (as := fun _ => [vi (sv X (i + 1).toNat), vi (sv X (i + 2).toNat), vi (sv X (i + 3).toNat), vi (sv X (i + 4).toNat)]) g (kX5_batch C (sv X (i + 1).toNat) (sv X (i + 2).toNat) (sv X (i + 3).toNat) (sv X (i + 4).toNat)) hC mX5_batch rfl w_750 w_751 w_752 (by decide) (fun _ => rfl) rfl (Nat.le_of_ble_eq_true rfl) dL_law_1234 ?_
  refine l_aload (lv := LV X i) g dL_law_1237 rfl ?_
  refine l_arg (j := 1) g ⟨hi.1, by omega, by decide⟩ dL_law_1238 dL_law_1239 dL_law_1240 dL_law_1241 dL_law_1242 ?_
  refine l_arg (j := 2) g ⟨hi.1, by omega, by decide⟩ dL_law_1243 dL_law_1244 dL_law_1245 dL_law_1246 dL_law_1247 ?_
  refine l_arg (j := 3) g ⟨hi.1, by omega, by decide⟩ dL_law_1248 dL_law_1249 dL_law_1250 dL_law_1251 dL_law_1252 ?_
  refine l_arg (j := 4) g ⟨hi.1, by omega, by decide⟩ dL_law_1253 dL_law_1254 dL_law_1255 dL_law_1256 dL_law_1257 ?_
  refine l_callM (u := (v, M')) (as := fun _ => [vi (sv X (i + 1).toNat), vi (sv X (i + 2).toNat), vi (sv X (i + 3).toNat), vi (sv X (i + 4).toNat)]) g (kX6_batch M (sv X (i + 1).toNat) (sv X (i + 2).toNat) (sv X (i + 3).toNat) (sv X (i + 4).toNat)) hM mX6_batch rfl w_1363 w_1364 w_1365 (by decide) (fun _ => rfl) rfl (Nat.le_of_ble_eq_true rfl) dL_law_1258 ?_
  refine l_eqI g dL_law_1261 1469 (by decide) ?_
  exact k _ _ hI2
theorem law_34 {X : Lx} {Inv : St → St → Prop} (hc : ca_34 Inv) (g : LOk X) {C M : St} (hI : Inv C M) {i : Int} (hi : 0 ≤ i ∧ i + 6 ≤ lL X) (k : ∀ C' M', Inv C' M' → Lg X C' M' 1469 (LV X i) []) : Lg X C M 1266 (LV X i) [] := by
  obtain ⟨v, C', M', hC, hM, hI2⟩ := hc C M  hI 
  refine l_aload (lv := LV X i) g dL_law_1266 rfl ?_
  refine l_callC (u := (v, C')) (as := fun _ => []) g (kX5_led C) hC mX5_led rfl w_757 w_758 w_759 (by decide) (fun _ => rfl) rfl (Nat.le_of_ble_eq_true rfl) dL_law_1267 ?_
  refine l_aload (lv := LV X i) g dL_law_1270 rfl ?_
  refine l_callM (u := (v, M')) (as := fun _ => []) g (kX6_led M) hM mX6_led rfl w_1370 w_1371 w_1372 (by decide) (fun _ => rfl) rfl (Nat.le_of_ble_eq_true rfl) dL_law_1271 ?_
  refine l_eqI g dL_law_1274 1469 (by decide) ?_
  exact k _ _ hI2
theorem law_35 {X : Lx} {Inv : St → St → Prop} (hc : ca_35 Inv) (g : LOk X) {C M : St} (hI : Inv C M) {i : Int} (hi : 0 ≤ i ∧ i + 6 ≤ lL X) (k : ∀ C' M', Inv C' M' → Lg X C' M' 1469 (LV X i) []) : Lg X C M 1279 (LV X i) [] := by
  obtain ⟨v, C', M', hC, hM, hI2⟩ := hc C M (sv X (i + 1).toNat) (sv X (i + 2).toNat) (sv X (i + 3).toNat) hI (sv_in X _) (sv_in X _) (sv_in X _)
  refine l_aload (lv := LV X i) g dL_law_1279 rfl ?_
  refine l_arg (j := 1) g ⟨hi.1, by omega, by decide⟩ dL_law_1280 dL_law_1281 dL_law_1282 dL_law_1283 dL_law_1284 ?_
  refine l_arg (j := 2) g ⟨hi.1, by omega, by decide⟩ dL_law_1285 dL_law_1286 dL_law_1287 dL_law_1288 dL_law_1289 ?_
  refine l_arg (j := 3) g ⟨hi.1, by omega, by decide⟩ dL_law_1290 dL_law_1291 dL_law_1292 dL_law_1293 dL_law_1294 ?_
  refine l_callC (u := (v, C')) (as := fun _ => [vi (sv X (i + 1).toNat), vi (sv X (i + 2).toNat), vi (sv X (i + 3).toNat)]) g (kX5_choose C (sv X (i + 1).toNat) (sv X (i + 2).toNat) (sv X (i + 3).toNat)) hC mX5_choose rfl w_768 w_769 w_770 (by decide) (fun _ => rfl) rfl (Nat.le_of_ble_eq_true rfl) dL_law_1295 ?_
  refine l_aload (lv := LV X i) g dL_law_1298 rfl ?_
  refine l_arg (j := 1) g ⟨hi.1, by omega, by decide⟩ dL_law_1299 dL_law_1300 dL_law_1301 dL_law_1302 dL_law_1303 ?_
  refine l_arg (j := 2) g ⟨hi.1, by omega, by decide⟩ dL_law_1304 dL_law_1305 dL_law_1306 dL_law_1307 dL_law_1308 ?_
  refine l_arg (j := 3) g ⟨hi.1, by omega, by decide⟩ dL_law_1309 dL_law_1310 dL_law_1311 dL_law_1312 dL_law_1313 ?_
  refine l_callM (u := (v, M')) (as := fun _ => [vi (sv X (i + 1).toNat), vi (sv X (i + 2).toNat), vi (sv X (i + 3).toNat)]) g (kX6_choose M (sv X (i + 1).toNat) (sv X (i + 2).toNat) (sv X (i + 3).toNat)) hM mX6_choose rfl w_1378 w_1379 w_1380 (by decide) (fun _ => rfl) rfl (Nat.le_of_ble_eq_true rfl) dL_law_1314 ?_
  refine l_eqI g dL_law_1317 1469 (by decide) ?_
  exact k _ _ hI2
theorem law_36 {X : Lx} {Inv : St → St → Prop} (hc : ca_36 Inv) (g : LOk X) {C M : St} (hI : Inv C M) {i : Int} (hi : 0 ≤ i ∧ i + 6 ≤ lL X) (k : ∀ C' M', Inv C' M' → Lg X C' M' 1469 (LV X i) []) : Lg X C M 1322 (LV X i) [] := by
  obtain ⟨v, C', M', hC, hM, hI2⟩ := hc C M (sv X (i + 1).toNat) (sv X (i + 2).toNat) hI (sv_in X _) (sv_in X _)
  refine l_aload (lv := LV X i) g dL_law_1322 rfl ?_
  refine l_arg (j := 1) g ⟨hi.1, by omega, by decide⟩ dL_law_1323 dL_law_1324 dL_law_1325 dL_law_1326 dL_law_1327 ?_
  refine l_arg (j := 2) g ⟨hi.1, by omega, by decide⟩ dL_law_1328 dL_law_1329 dL_law_1330 dL_law_1331 dL_law_1332 ?_
  refine l_callC (u := (v, C')) (as := fun _ => [vi (sv X (i + 1).toNat), vi (sv X (i + 2).toNat)]) g (kX5_sniff C (sv X (i + 1).toNat) (sv X (i + 2).toNat)) hC mX5_sniff rfl w_788 w_789 w_790 (by decide) (fun _ => rfl) rfl (Nat.le_of_ble_eq_true rfl) dL_law_1333 ?_
  refine l_aload (lv := LV X i) g dL_law_1336 rfl ?_
  refine l_arg (j := 1) g ⟨hi.1, by omega, by decide⟩ dL_law_1337 dL_law_1338 dL_law_1339 dL_law_1340 dL_law_1341 ?_
  refine l_arg (j := 2) g ⟨hi.1, by omega, by decide⟩ dL_law_1342 dL_law_1343 dL_law_1344 dL_law_1345 dL_law_1346 ?_
  refine l_callM (u := (v, M')) (as := fun _ => [vi (sv X (i + 1).toNat), vi (sv X (i + 2).toNat)]) g (kX6_sniff M (sv X (i + 1).toNat) (sv X (i + 2).toNat)) hM mX6_sniff rfl w_1397 w_1398 w_1399 (by decide) (fun _ => rfl) rfl (Nat.le_of_ble_eq_true rfl) dL_law_1347 ?_
  refine l_eqI g dL_law_1350 1469 (by decide) ?_
  exact k _ _ hI2
theorem law_37 {X : Lx} {Inv : St → St → Prop} (hc : ca_37 Inv) (g : LOk X) {C M : St} (hI : Inv C M) {i : Int} (hi : 0 ≤ i ∧ i + 6 ≤ lL X) (k : ∀ C' M', Inv C' M' → Lg X C' M' 1469 (LV X i) []) : Lg X C M 1355 (LV X i) [] := by
  obtain ⟨v, hC, hM, hI2⟩ := hc C M  hI 
  refine l_aload (lv := LV X i) g dL_law_1355 rfl ?_
  refine l_callC (u := v) (as := fun _ => []) g (kX5_asked C) hC mX5_asked rfl w_801 w_802 w_803 (by decide) (fun _ => rfl) rfl (Nat.le_of_ble_eq_true rfl) dL_law_1356 ?_
  refine l_aload (lv := LV X i) g dL_law_1359 rfl ?_
  refine l_callM (u := v) (as := fun _ => []) g (kX6_asked M) hM mX6_asked rfl w_1036 w_1037 w_1038 (by decide) (fun _ => rfl) rfl (Nat.le_of_ble_eq_true rfl) dL_law_1360 ?_
  refine l_eqI g dL_law_1363 1469 (by decide) ?_
  exact k _ _ hI2
theorem law_38 {X : Lx} {Inv : St → St → Prop} (hc : ca_38 Inv) (g : LOk X) {C M : St} (hI : Inv C M) {i : Int} (hi : 0 ≤ i ∧ i + 6 ≤ lL X) (k : ∀ C' M', Inv C' M' → Lg X C' M' 1469 (LV X i) []) : Lg X C M 1368 (LV X i) [] := by
  obtain ⟨v, hC, hM, hI2⟩ := hc C M  hI 
  refine l_aload (lv := LV X i) g dL_law_1368 rfl ?_
  refine l_callC (u := v) (as := fun _ => []) g (kX5_upper C) hC mX5_upper rfl w_805 w_806 w_807 (by decide) (fun _ => rfl) rfl (Nat.le_of_ble_eq_true rfl) dL_law_1369 ?_
  refine l_aload (lv := LV X i) g dL_law_1372 rfl ?_
  refine l_callM (u := v) (as := fun _ => []) g (kX6_upper M) hM mX6_upper rfl w_1040 w_1041 w_1042 (by decide) (fun _ => rfl) rfl (Nat.le_of_ble_eq_true rfl) dL_law_1373 ?_
  refine l_eqL g dL_law_1376 dL_law_1377 1469 (by decide) ?_
  exact k _ _ hI2
theorem law_39 {X : Lx} {Inv : St → St → Prop} (hc : ca_39 Inv) (g : LOk X) {C M : St} (hI : Inv C M) {i : Int} (hi : 0 ≤ i ∧ i + 6 ≤ lL X) (k : ∀ C' M', Inv C' M' → Lg X C' M' 1469 (LV X i) []) : Lg X C M 1382 (LV X i) [] := by
  obtain ⟨v, hC, hM, hI2⟩ := hc C M  hI 
  refine l_aload (lv := LV X i) g dL_law_1382 rfl ?_
  refine l_callC (u := v) (as := fun _ => []) g (kX5_lower C) hC mX5_lower rfl w_809 w_810 w_811 (by decide) (fun _ => rfl) rfl (Nat.le_of_ble_eq_true rfl) dL_law_1383 ?_
  refine l_aload (lv := LV X i) g dL_law_1386 rfl ?_
  refine l_callM (u := v) (as := fun _ => []) g (kX6_lower M) hM mX6_lower rfl w_1044 w_1045 w_1046 (by decide) (fun _ => rfl) rfl (Nat.le_of_ble_eq_true rfl) dL_law_1387 ?_
  refine l_eqL g dL_law_1390 dL_law_1391 1469 (by decide) ?_
  exact k _ _ hI2
theorem law_40 {X : Lx} {Inv : St → St → Prop} (hc : ca_40 Inv) (g : LOk X) {C M : St} (hI : Inv C M) {i : Int} (hi : 0 ≤ i ∧ i + 6 ≤ lL X) (k : ∀ C' M', Inv C' M' → Lg X C' M' 1469 (LV X i) []) : Lg X C M 1396 (LV X i) [] := by
  obtain ⟨v, hC, hM, hI2⟩ := hc C M (sv X (i + 1).toNat) hI (sv_in X _)
  refine l_aload (lv := LV X i) g dL_law_1396 rfl ?_
  refine l_arg (j := 1) g ⟨hi.1, by omega, by decide⟩ dL_law_1397 dL_law_1398 dL_law_1399 dL_law_1400 dL_law_1401 ?_
  refine l_callC (u := v) (as := fun _ => [vi (sv X (i + 1).toNat)]) g (kX5_count C (sv X (i + 1).toNat)) hC mX5_count rfl w_813 w_814 w_815 (by decide) (fun _ => rfl) rfl (Nat.le_of_ble_eq_true rfl) dL_law_1402 ?_
  refine l_aload (lv := LV X i) g dL_law_1405 rfl ?_
  refine l_arg (j := 1) g ⟨hi.1, by omega, by decide⟩ dL_law_1406 dL_law_1407 dL_law_1408 dL_law_1409 dL_law_1410 ?_
  refine l_callM (u := v) (as := fun _ => [vi (sv X (i + 1).toNat)]) g (kX6_count M (sv X (i + 1).toNat)) hM mX6_count rfl w_1405 w_1406 w_1407 (by decide) (fun _ => rfl) rfl (Nat.le_of_ble_eq_true rfl) dL_law_1411 ?_
  refine l_eqI g dL_law_1414 1469 (by decide) ?_
  exact k _ _ hI2
theorem law_41 {X : Lx} {Inv : St → St → Prop} (hc : ca_41 Inv) (g : LOk X) {C M : St} (hI : Inv C M) {i : Int} (hi : 0 ≤ i ∧ i + 6 ≤ lL X) (k : ∀ C' M', Inv C' M' → Lg X C' M' 1469 (LV X i) []) : Lg X C M 1419 (LV X i) [] := by
  obtain ⟨v, hC, hM, hI2⟩ := hc C M  hI 
  refine l_aload (lv := LV X i) g dL_law_1419 rfl ?_
  refine l_callC (u := v) (as := fun _ => []) g (kX5_finding C) hC mX5_finding rfl w_824 w_825 w_826 (by decide) (fun _ => rfl) rfl (Nat.le_of_ble_eq_true rfl) dL_law_1420 ?_
  refine l_aload (lv := LV X i) g dL_law_1423 rfl ?_
  refine l_callM (u := v) (as := fun _ => []) g (kX6_finding M) hM mX6_finding rfl w_1025 w_1026 w_1027 (by decide) (fun _ => rfl) rfl (Nat.le_of_ble_eq_true rfl) dL_law_1424 ?_
  refine l_eqI g dL_law_1427 1469 (by decide) ?_
  exact k _ _ hI2
theorem law_42 {X : Lx} {Inv : St → St → Prop} (hc : ca_42 Inv) (g : LOk X) {C M : St} (hI : Inv C M) {i : Int} (hi : 0 ≤ i ∧ i + 6 ≤ lL X) (k : ∀ C' M', Inv C' M' → Lg X C' M' 1469 (LV X i) []) : Lg X C M 1432 (LV X i) [] := by
  obtain ⟨v, hC, hM, hI2⟩ := hc C M (sv X (i + 1).toNat) hI (sv_in X _)
  refine l_aload (lv := LV X i) g dL_law_1432 rfl ?_
  refine l_arg (j := 1) g ⟨hi.1, by omega, by decide⟩ dL_law_1433 dL_law_1434 dL_law_1435 dL_law_1436 dL_law_1437 ?_
  refine l_callC (u := v) (as := fun _ => [vi (sv X (i + 1).toNat)]) g (kX5_findings C (sv X (i + 1).toNat)) hC mX5_findings rfl w_828 w_829 w_830 (by decide) (fun _ => rfl) rfl (Nat.le_of_ble_eq_true rfl) dL_law_1438 ?_
  refine l_aload (lv := LV X i) g dL_law_1441 rfl ?_
  refine l_arg (j := 1) g ⟨hi.1, by omega, by decide⟩ dL_law_1442 dL_law_1443 dL_law_1444 dL_law_1445 dL_law_1446 ?_
  refine l_callM (u := v) (as := fun _ => [vi (sv X (i + 1).toNat)]) g (kX6_findings M (sv X (i + 1).toNat)) hM mX6_findings rfl w_1029 w_1030 w_1031 (by decide) (fun _ => rfl) rfl (Nat.le_of_ble_eq_true rfl) dL_law_1447 ?_
  refine l_eqI g dL_law_1450 1469 (by decide) ?_
  exact k _ _ hI2
theorem law_43 {X : Lx} {Inv : St → St → Prop} (hc : ca_43 Inv) (g : LOk X) {C M : St} (hI : Inv C M) {i : Int} (hi : 0 ≤ i ∧ i + 6 ≤ lL X) (k : ∀ C' M', Inv C' M' → Lg X C' M' 1469 (LV X i) []) : Lg X C M 1455 (LV X i) [] := by
  obtain ⟨v, M', hC, hM, hI2⟩ := hc C M  hI 
  refine l_aload (lv := LV X i) g dL_law_1455 rfl ?_
  refine l_callC (u := v) (as := fun _ => []) g (kX5_digest C) hC mX5_digest rfl w_832 w_833 w_834 (by decide) (fun _ => rfl) rfl (Nat.le_of_ble_eq_true rfl) dL_law_1456 ?_
  refine l_aload (lv := LV X i) g dL_law_1459 rfl ?_
  refine l_callM (u := (v, M')) (as := fun _ => []) g (kX6_digest M) hM mX6_digest rfl w_1409 w_1410 w_1411 (by decide) (fun _ => rfl) rfl (Nat.le_of_ble_eq_true rfl) dL_law_1460 ?_
  refine l_eqL g dL_law_1463 dL_law_1464 1469 (by decide) ?_
  exact k _ _ hI2
