/-! the law, call by call -/
section CASES
variable {p : Program} {l : Launch} {e : Env} {s : State} {m : MethodId} {below : List Frame} {meth : Method} {c : Code} {b L : Nat} {xs : Nat → Int32} {D : va_G} {cA : Nat → ClassId} {aC aR : Nat → Nat}
theorem mlw_X11_feed : ML yX11_feed cX11_feed 2 (some .int) 1 := ⟨(bw 418 (by decide +kernel) (by decide +kernel)), (bw 419 (by decide +kernel) (by decide +kernel)), (bw 99 (by decide +kernel) (by decide +kernel)), (bw 420 (by decide +kernel) (by decide +kernel)), ⟨by decide +kernel, by decide +kernel⟩, by decide +kernel⟩
theorem mlw_X12_feed : ML yX12_feed cX12_feed 3 (some .int) 1 := ⟨(bw 1363 (by decide +kernel) (by decide +kernel)), (bw 1364 (by decide +kernel) (by decide +kernel)), (bw 111 (by decide +kernel) (by decide +kernel)), (bw 1365 (by decide +kernel) (by decide +kernel)), ⟨by decide +kernel, by decide +kernel⟩, by decide +kernel⟩
theorem dL_276 : decode code 276 = .ok (.aload_n 1, 1) := by decide +kernel
theorem dL_277 : decode code 277 = .ok (.aload_n 0, 1) := by decide +kernel
theorem dL_278 : decode code 278 = .ok (.iload_n 3, 1) := by decide +kernel
theorem dL_279 : decode code 279 = .ok (.iconst 1, 1) := by decide +kernel
theorem dL_280 : decode code 280 = .ok (.iadd, 1) := by decide +kernel
theorem dL_281 : decode code 281 = .ok (.iaload, 1) := by decide +kernel
theorem dL_282 : decode code 282 = .ok (.invokevirtual 13, 3) := by decide +kernel
theorem dL_285 : decode code 285 = .ok (.aload_n 2, 1) := by decide +kernel
theorem dL_286 : decode code 286 = .ok (.aload_n 0, 1) := by decide +kernel
theorem dL_287 : decode code 287 = .ok (.iload_n 3, 1) := by decide +kernel
theorem dL_288 : decode code 288 = .ok (.iconst 1, 1) := by decide +kernel
theorem dL_289 : decode code 289 = .ok (.iadd, 1) := by decide +kernel
theorem dL_290 : decode code 290 = .ok (.iaload, 1) := by decide +kernel
theorem dL_291 : decode code 291 = .ok (.invokevirtual 17, 3) := by decide +kernel
theorem dL_294 : decode code 294 = .ok (.if_icmp .eq 1306, 3) := by decide +kernel
theorem dL_297 : decode code 297 = .ok (.iconst 0, 1) := by decide +kernel
theorem dL_298 : decode code 298 = .ok (.ireturn, 1) := by decide +kernel
theorem case_0 (C : CL p s m meth c b L xs D cA aC aR) {i : Nat} {MC MR : Mem} (hi : i + 4 ≤ L) (hL : L ≤ 2048) (hI : Inv MC MR) (kk : ∀ MC' MR' : Mem, Inv MC' MR' → KL p l e s m below meth c b D cA aC aR 1600 (lvL b aC aR i) [] MC' MR') : KL p l e s m below meth c b D cA aC aR 276 (lvL b aC aR i) [] MC MR := by
  obtain ⟨v, MC', MR', e1, e2, hI2⟩ := sim_feed hI (xs (i + 1))
  refine w_ald C 1 (by decide) rfl rfl dL_276 ?_
  refine w_arg (k := 1) C (by omega) (by omega) dL_277 dL_278 dL_279 (by decide) dL_280 dL_281 ?_
  refine w_callCi C (As := [.int (xs (i + 1))]) (c_X11_feed C.2.2.2.2.1 (xs (i + 1)) _ _ e1) mlw_X11_feed (bw 417 (by decide +kernel) (by decide +kernel)) rfl rfl (st := []) rfl ⟨Nat.le_of_ble_eq_true rfl, Nat.le_of_ble_eq_true rfl⟩ (Nat.le_of_ble_eq_true rfl) dL_282 ?_
  refine w_ald C 2 (by decide) rfl rfl dL_285 ?_
  refine w_arg (k := 1) C (by omega) (by omega) dL_286 dL_287 dL_288 (by decide) dL_289 dL_290 ?_
  refine w_callRi C (As := [.int (xs (i + 1))]) (c_X12_feed C.2.2.2.2.2.1 (xs (i + 1)) _ _ e2) mlw_X12_feed (bw 1362 (by decide +kernel) (by decide +kernel)) rfl rfl (st := [.int v]) rfl ⟨Nat.le_of_ble_eq_true rfl, Nat.le_of_ble_eq_true rfl⟩ (Nat.le_of_ble_eq_true rfl) dL_291 ?_
  exact w_eq C (tgt := 1600) dL_294 (by decide) (kk MC' MR' hI2)
theorem mlw_X11_state : ML yX11_state cX11_state 2 (some .int) 0 := ⟨(bw 430 (by decide +kernel) (by decide +kernel)), (bw 431 (by decide +kernel) (by decide +kernel)), (bw 99 (by decide +kernel) (by decide +kernel)), (bw 432 (by decide +kernel) (by decide +kernel)), ⟨by decide +kernel, by decide +kernel⟩, by decide +kernel⟩
theorem mlw_X12_state : ML yX12_state cX12_state 3 (some .int) 0 := ⟨(bw 1374 (by decide +kernel) (by decide +kernel)), (bw 1375 (by decide +kernel) (by decide +kernel)), (bw 111 (by decide +kernel) (by decide +kernel)), (bw 1376 (by decide +kernel) (by decide +kernel)), ⟨by decide +kernel, by decide +kernel⟩, by decide +kernel⟩
theorem dL_299 : decode code 299 = .ok (.aload_n 1, 1) := by decide +kernel
theorem dL_300 : decode code 300 = .ok (.invokevirtual 18, 3) := by decide +kernel
theorem dL_303 : decode code 303 = .ok (.aload_n 2, 1) := by decide +kernel
theorem dL_304 : decode code 304 = .ok (.invokevirtual 22, 3) := by decide +kernel
theorem dL_307 : decode code 307 = .ok (.if_icmp .eq 1293, 3) := by decide +kernel
theorem dL_310 : decode code 310 = .ok (.iconst 0, 1) := by decide +kernel
theorem dL_311 : decode code 311 = .ok (.ireturn, 1) := by decide +kernel
theorem case_1 (C : CL p s m meth c b L xs D cA aC aR) {i : Nat} {MC MR : Mem} (hi : i + 4 ≤ L) (hL : L ≤ 2048) (hI : Inv MC MR) (kk : ∀ MC' MR' : Mem, Inv MC' MR' → KL p l e s m below meth c b D cA aC aR 1600 (lvL b aC aR i) [] MC' MR') : KL p l e s m below meth c b D cA aC aR 299 (lvL b aC aR i) [] MC MR := by
  obtain ⟨v, MC', MR', e1, e2, hI2⟩ := sim_state hI
  refine w_ald C 1 (by decide) rfl rfl dL_299 ?_
  refine w_callCi C (As := []) (c_X11_state C.2.2.2.2.1 _ _ e1) mlw_X11_state (bw 429 (by decide +kernel) (by decide +kernel)) rfl rfl (st := []) rfl ⟨Nat.le_of_ble_eq_true rfl, Nat.le_of_ble_eq_true rfl⟩ (Nat.le_of_ble_eq_true rfl) dL_300 ?_
  refine w_ald C 2 (by decide) rfl rfl dL_303 ?_
  refine w_callRi C (As := []) (c_X12_state C.2.2.2.2.2.1 _ _ e2) mlw_X12_state (bw 1373 (by decide +kernel) (by decide +kernel)) rfl rfl (st := [.int v]) rfl ⟨Nat.le_of_ble_eq_true rfl, Nat.le_of_ble_eq_true rfl⟩ (Nat.le_of_ble_eq_true rfl) dL_304 ?_
  exact w_eq C (tgt := 1600) dL_307 (by decide) (kk MC' MR' hI2)
theorem mlw_X11_doingOf : ML yX11_doingOf cX11_doingOf 3 (some .int) 2 := ⟨(bw 539 (by decide +kernel) (by decide +kernel)), (bw 540 (by decide +kernel) (by decide +kernel)), (bw 99 (by decide +kernel) (by decide +kernel)), (bw 541 (by decide +kernel) (by decide +kernel)), ⟨by decide +kernel, by decide +kernel⟩, by decide +kernel⟩
theorem mlw_X12_doingOf : ML yX12_doingOf cX12_doingOf 3 (some .int) 2 := ⟨(bw 1436 (by decide +kernel) (by decide +kernel)), (bw 1437 (by decide +kernel) (by decide +kernel)), (bw 111 (by decide +kernel) (by decide +kernel)), (bw 1438 (by decide +kernel) (by decide +kernel)), ⟨by decide +kernel, by decide +kernel⟩, by decide +kernel⟩
theorem dL_312 : decode code 312 = .ok (.aload_n 1, 1) := by decide +kernel
theorem dL_313 : decode code 313 = .ok (.aload_n 0, 1) := by decide +kernel
theorem dL_314 : decode code 314 = .ok (.iload_n 3, 1) := by decide +kernel
theorem dL_315 : decode code 315 = .ok (.iconst 1, 1) := by decide +kernel
theorem dL_316 : decode code 316 = .ok (.iadd, 1) := by decide +kernel
theorem dL_317 : decode code 317 = .ok (.iaload, 1) := by decide +kernel
theorem dL_318 : decode code 318 = .ok (.aload_n 0, 1) := by decide +kernel
theorem dL_319 : decode code 319 = .ok (.iload_n 3, 1) := by decide +kernel
theorem dL_320 : decode code 320 = .ok (.iconst 2, 1) := by decide +kernel
theorem dL_321 : decode code 321 = .ok (.iadd, 1) := by decide +kernel
theorem dL_322 : decode code 322 = .ok (.iaload, 1) := by decide +kernel
theorem dL_323 : decode code 323 = .ok (.invokevirtual 23, 3) := by decide +kernel
theorem dL_326 : decode code 326 = .ok (.aload_n 2, 1) := by decide +kernel
theorem dL_327 : decode code 327 = .ok (.aload_n 0, 1) := by decide +kernel
theorem dL_328 : decode code 328 = .ok (.iload_n 3, 1) := by decide +kernel
theorem dL_329 : decode code 329 = .ok (.iconst 1, 1) := by decide +kernel
theorem dL_330 : decode code 330 = .ok (.iadd, 1) := by decide +kernel
theorem dL_331 : decode code 331 = .ok (.iaload, 1) := by decide +kernel
theorem dL_332 : decode code 332 = .ok (.aload_n 0, 1) := by decide +kernel
theorem dL_333 : decode code 333 = .ok (.iload_n 3, 1) := by decide +kernel
theorem dL_334 : decode code 334 = .ok (.iconst 2, 1) := by decide +kernel
theorem dL_335 : decode code 335 = .ok (.iadd, 1) := by decide +kernel
theorem dL_336 : decode code 336 = .ok (.iaload, 1) := by decide +kernel
theorem dL_337 : decode code 337 = .ok (.invokevirtual 27, 3) := by decide +kernel
theorem dL_340 : decode code 340 = .ok (.if_icmp .eq 1260, 3) := by decide +kernel
theorem dL_343 : decode code 343 = .ok (.iconst 0, 1) := by decide +kernel
theorem dL_344 : decode code 344 = .ok (.ireturn, 1) := by decide +kernel
theorem case_2 (C : CL p s m meth c b L xs D cA aC aR) {i : Nat} {MC MR : Mem} (hi : i + 4 ≤ L) (hL : L ≤ 2048) (hI : Inv MC MR) (kk : ∀ MC' MR' : Mem, Inv MC' MR' → KL p l e s m below meth c b D cA aC aR 1600 (lvL b aC aR i) [] MC' MR') : KL p l e s m below meth c b D cA aC aR 312 (lvL b aC aR i) [] MC MR := by
  obtain ⟨v, MC', MR', e1, e2, hI2⟩ := sim_doingOf hI (xs (i + 1)) (xs (i + 2))
  refine w_ald C 1 (by decide) rfl rfl dL_312 ?_
  refine w_arg (k := 1) C (by omega) (by omega) dL_313 dL_314 dL_315 (by decide) dL_316 dL_317 ?_
  refine w_arg (k := 2) C (by omega) (by omega) dL_318 dL_319 dL_320 (by decide) dL_321 dL_322 ?_
  refine w_callCi C (As := [.int (xs (i + 1)), .int (xs (i + 2))]) (c_X11_doingOf C.2.2.2.2.1 (xs (i + 1)) (xs (i + 2)) _ _ e1) mlw_X11_doingOf (bw 538 (by decide +kernel) (by decide +kernel)) rfl rfl (st := []) rfl ⟨Nat.le_of_ble_eq_true rfl, Nat.le_of_ble_eq_true rfl⟩ (Nat.le_of_ble_eq_true rfl) dL_323 ?_
  refine w_ald C 2 (by decide) rfl rfl dL_326 ?_
  refine w_arg (k := 1) C (by omega) (by omega) dL_327 dL_328 dL_329 (by decide) dL_330 dL_331 ?_
  refine w_arg (k := 2) C (by omega) (by omega) dL_332 dL_333 dL_334 (by decide) dL_335 dL_336 ?_
  refine w_callRi C (As := [.int (xs (i + 1)), .int (xs (i + 2))]) (c_X12_doingOf C.2.2.2.2.2.1 (xs (i + 1)) (xs (i + 2)) _ _ e2) mlw_X12_doingOf (bw 1435 (by decide +kernel) (by decide +kernel)) rfl rfl (st := [.int v]) rfl ⟨Nat.le_of_ble_eq_true rfl, Nat.le_of_ble_eq_true rfl⟩ (Nat.le_of_ble_eq_true rfl) dL_337 ?_
  exact w_eq C (tgt := 1600) dL_340 (by decide) (kk MC' MR' hI2)
theorem mlw_X11_doing : ML yX11_doing cX11_doing 4 (some .int) 3 := ⟨(bw 544 (by decide +kernel) (by decide +kernel)), (bw 545 (by decide +kernel) (by decide +kernel)), (bw 99 (by decide +kernel) (by decide +kernel)), (bw 546 (by decide +kernel) (by decide +kernel)), ⟨by decide +kernel, by decide +kernel⟩, by decide +kernel⟩
theorem mlw_X12_doing : ML yX12_doing cX12_doing 5 (some .int) 3 := ⟨(bw 1440 (by decide +kernel) (by decide +kernel)), (bw 1441 (by decide +kernel) (by decide +kernel)), (bw 111 (by decide +kernel) (by decide +kernel)), (bw 1442 (by decide +kernel) (by decide +kernel)), ⟨by decide +kernel, by decide +kernel⟩, by decide +kernel⟩
theorem dL_345 : decode code 345 = .ok (.aload_n 1, 1) := by decide +kernel
theorem dL_346 : decode code 346 = .ok (.aload_n 0, 1) := by decide +kernel
theorem dL_347 : decode code 347 = .ok (.iload_n 3, 1) := by decide +kernel
theorem dL_348 : decode code 348 = .ok (.iconst 1, 1) := by decide +kernel
theorem dL_349 : decode code 349 = .ok (.iadd, 1) := by decide +kernel
theorem dL_350 : decode code 350 = .ok (.iaload, 1) := by decide +kernel
theorem dL_351 : decode code 351 = .ok (.aload_n 0, 1) := by decide +kernel
theorem dL_352 : decode code 352 = .ok (.iload_n 3, 1) := by decide +kernel
theorem dL_353 : decode code 353 = .ok (.iconst 2, 1) := by decide +kernel
theorem dL_354 : decode code 354 = .ok (.iadd, 1) := by decide +kernel
theorem dL_355 : decode code 355 = .ok (.iaload, 1) := by decide +kernel
theorem dL_356 : decode code 356 = .ok (.aload_n 0, 1) := by decide +kernel
theorem dL_357 : decode code 357 = .ok (.iload_n 3, 1) := by decide +kernel
theorem dL_358 : decode code 358 = .ok (.iconst 3, 1) := by decide +kernel
theorem dL_359 : decode code 359 = .ok (.iadd, 1) := by decide +kernel
theorem dL_360 : decode code 360 = .ok (.iaload, 1) := by decide +kernel
theorem dL_361 : decode code 361 = .ok (.invokevirtual 28, 3) := by decide +kernel
theorem dL_364 : decode code 364 = .ok (.aload_n 2, 1) := by decide +kernel
theorem dL_365 : decode code 365 = .ok (.aload_n 0, 1) := by decide +kernel
theorem dL_366 : decode code 366 = .ok (.iload_n 3, 1) := by decide +kernel
theorem dL_367 : decode code 367 = .ok (.iconst 1, 1) := by decide +kernel
theorem dL_368 : decode code 368 = .ok (.iadd, 1) := by decide +kernel
theorem dL_369 : decode code 369 = .ok (.iaload, 1) := by decide +kernel
theorem dL_370 : decode code 370 = .ok (.aload_n 0, 1) := by decide +kernel
theorem dL_371 : decode code 371 = .ok (.iload_n 3, 1) := by decide +kernel
theorem dL_372 : decode code 372 = .ok (.iconst 2, 1) := by decide +kernel
theorem dL_373 : decode code 373 = .ok (.iadd, 1) := by decide +kernel
theorem dL_374 : decode code 374 = .ok (.iaload, 1) := by decide +kernel
theorem dL_375 : decode code 375 = .ok (.aload_n 0, 1) := by decide +kernel
theorem dL_376 : decode code 376 = .ok (.iload_n 3, 1) := by decide +kernel
theorem dL_377 : decode code 377 = .ok (.iconst 3, 1) := by decide +kernel
theorem dL_378 : decode code 378 = .ok (.iadd, 1) := by decide +kernel
theorem dL_379 : decode code 379 = .ok (.iaload, 1) := by decide +kernel
theorem dL_380 : decode code 380 = .ok (.invokevirtual 32, 3) := by decide +kernel
theorem dL_383 : decode code 383 = .ok (.if_icmp .eq 1217, 3) := by decide +kernel
theorem dL_386 : decode code 386 = .ok (.iconst 0, 1) := by decide +kernel
theorem dL_387 : decode code 387 = .ok (.ireturn, 1) := by decide +kernel
theorem case_3 (C : CL p s m meth c b L xs D cA aC aR) {i : Nat} {MC MR : Mem} (hi : i + 4 ≤ L) (hL : L ≤ 2048) (hI : Inv MC MR) (kk : ∀ MC' MR' : Mem, Inv MC' MR' → KL p l e s m below meth c b D cA aC aR 1600 (lvL b aC aR i) [] MC' MR') : KL p l e s m below meth c b D cA aC aR 345 (lvL b aC aR i) [] MC MR := by
  obtain ⟨v, MC', MR', e1, e2, hI2⟩ := sim_doing hI (xs (i + 1)) (xs (i + 2)) (xs (i + 3))
  refine w_ald C 1 (by decide) rfl rfl dL_345 ?_
  refine w_arg (k := 1) C (by omega) (by omega) dL_346 dL_347 dL_348 (by decide) dL_349 dL_350 ?_
  refine w_arg (k := 2) C (by omega) (by omega) dL_351 dL_352 dL_353 (by decide) dL_354 dL_355 ?_
  refine w_arg (k := 3) C (by omega) (by omega) dL_356 dL_357 dL_358 (by decide) dL_359 dL_360 ?_
  refine w_callCi C (As := [.int (xs (i + 1)), .int (xs (i + 2)), .int (xs (i + 3))]) (c_X11_doing C.2.2.2.2.1 (xs (i + 1)) (xs (i + 2)) (xs (i + 3)) _ _ e1) mlw_X11_doing (bw 543 (by decide +kernel) (by decide +kernel)) rfl rfl (st := []) rfl ⟨Nat.le_of_ble_eq_true rfl, Nat.le_of_ble_eq_true rfl⟩ (Nat.le_of_ble_eq_true rfl) dL_361 ?_
  refine w_ald C 2 (by decide) rfl rfl dL_364 ?_
  refine w_arg (k := 1) C (by omega) (by omega) dL_365 dL_366 dL_367 (by decide) dL_368 dL_369 ?_
  refine w_arg (k := 2) C (by omega) (by omega) dL_370 dL_371 dL_372 (by decide) dL_373 dL_374 ?_
  refine w_arg (k := 3) C (by omega) (by omega) dL_375 dL_376 dL_377 (by decide) dL_378 dL_379 ?_
  refine w_callRi C (As := [.int (xs (i + 1)), .int (xs (i + 2)), .int (xs (i + 3))]) (c_X12_doing C.2.2.2.2.2.1 (xs (i + 1)) (xs (i + 2)) (xs (i + 3)) _ _ e2) mlw_X12_doing (bw 1439 (by decide +kernel) (by decide +kernel)) rfl rfl (st := [.int v]) rfl ⟨Nat.le_of_ble_eq_true rfl, Nat.le_of_ble_eq_true rfl⟩ (Nat.le_of_ble_eq_true rfl) dL_380 ?_
  exact w_eq C (tgt := 1600) dL_383 (by decide) (kk MC' MR' hI2)
theorem mlw_X11_does : ML yX11_does cX11_does 3 (some .int) 1 := ⟨(bw 551 (by decide +kernel) (by decide +kernel)), (bw 552 (by decide +kernel) (by decide +kernel)), (bw 99 (by decide +kernel) (by decide +kernel)), (bw 553 (by decide +kernel) (by decide +kernel)), ⟨by decide +kernel, by decide +kernel⟩, by decide +kernel⟩
theorem mlw_X12_does : ML yX12_does cX12_does 3 (some .int) 1 := ⟨(bw 1444 (by decide +kernel) (by decide +kernel)), (bw 1445 (by decide +kernel) (by decide +kernel)), (bw 111 (by decide +kernel) (by decide +kernel)), (bw 1446 (by decide +kernel) (by decide +kernel)), ⟨by decide +kernel, by decide +kernel⟩, by decide +kernel⟩
theorem dL_388 : decode code 388 = .ok (.aload_n 1, 1) := by decide +kernel
theorem dL_389 : decode code 389 = .ok (.aload_n 0, 1) := by decide +kernel
theorem dL_390 : decode code 390 = .ok (.iload_n 3, 1) := by decide +kernel
theorem dL_391 : decode code 391 = .ok (.iconst 1, 1) := by decide +kernel
theorem dL_392 : decode code 392 = .ok (.iadd, 1) := by decide +kernel
theorem dL_393 : decode code 393 = .ok (.iaload, 1) := by decide +kernel
theorem dL_394 : decode code 394 = .ok (.invokevirtual 33, 3) := by decide +kernel
theorem dL_397 : decode code 397 = .ok (.aload_n 2, 1) := by decide +kernel
theorem dL_398 : decode code 398 = .ok (.aload_n 0, 1) := by decide +kernel
theorem dL_399 : decode code 399 = .ok (.iload_n 3, 1) := by decide +kernel
theorem dL_400 : decode code 400 = .ok (.iconst 1, 1) := by decide +kernel
theorem dL_401 : decode code 401 = .ok (.iadd, 1) := by decide +kernel
theorem dL_402 : decode code 402 = .ok (.iaload, 1) := by decide +kernel
theorem dL_403 : decode code 403 = .ok (.invokevirtual 36, 3) := by decide +kernel
theorem dL_406 : decode code 406 = .ok (.if_icmp .eq 1194, 3) := by decide +kernel
theorem dL_409 : decode code 409 = .ok (.iconst 0, 1) := by decide +kernel
theorem dL_410 : decode code 410 = .ok (.ireturn, 1) := by decide +kernel
theorem case_4 (C : CL p s m meth c b L xs D cA aC aR) {i : Nat} {MC MR : Mem} (hi : i + 4 ≤ L) (hL : L ≤ 2048) (hI : Inv MC MR) (kk : ∀ MC' MR' : Mem, Inv MC' MR' → KL p l e s m below meth c b D cA aC aR 1600 (lvL b aC aR i) [] MC' MR') : KL p l e s m below meth c b D cA aC aR 388 (lvL b aC aR i) [] MC MR := by
  obtain ⟨v, MC', MR', e1, e2, hI2⟩ := sim_does hI (xs (i + 1))
  refine w_ald C 1 (by decide) rfl rfl dL_388 ?_
  refine w_arg (k := 1) C (by omega) (by omega) dL_389 dL_390 dL_391 (by decide) dL_392 dL_393 ?_
  refine w_callCi C (As := [.int (xs (i + 1))]) (c_X11_does C.2.2.2.2.1 (xs (i + 1)) _ _ e1) mlw_X11_does (bw 550 (by decide +kernel) (by decide +kernel)) rfl rfl (st := []) rfl ⟨Nat.le_of_ble_eq_true rfl, Nat.le_of_ble_eq_true rfl⟩ (Nat.le_of_ble_eq_true rfl) dL_394 ?_
  refine w_ald C 2 (by decide) rfl rfl dL_397 ?_
  refine w_arg (k := 1) C (by omega) (by omega) dL_398 dL_399 dL_400 (by decide) dL_401 dL_402 ?_
  refine w_callRi C (As := [.int (xs (i + 1))]) (c_X12_does C.2.2.2.2.2.1 (xs (i + 1)) _ _ e2) mlw_X12_does (bw 1443 (by decide +kernel) (by decide +kernel)) rfl rfl (st := [.int v]) rfl ⟨Nat.le_of_ble_eq_true rfl, Nat.le_of_ble_eq_true rfl⟩ (Nat.le_of_ble_eq_true rfl) dL_403 ?_
  exact w_eq C (tgt := 1600) dL_406 (by decide) (kk MC' MR' hI2)
theorem mlw_X11_empties : ML yX11_empties cX11_empties 2 (some .int) 0 := ⟨(bw 619 (by decide +kernel) (by decide +kernel)), (bw 620 (by decide +kernel) (by decide +kernel)), (bw 99 (by decide +kernel) (by decide +kernel)), (bw 621 (by decide +kernel) (by decide +kernel)), ⟨by decide +kernel, by decide +kernel⟩, by decide +kernel⟩
theorem mlw_X12_empties : ML yX12_empties cX12_empties 2 (some .int) 0 := ⟨(bw 1471 (by decide +kernel) (by decide +kernel)), (bw 1472 (by decide +kernel) (by decide +kernel)), (bw 111 (by decide +kernel) (by decide +kernel)), (bw 1473 (by decide +kernel) (by decide +kernel)), ⟨by decide +kernel, by decide +kernel⟩, by decide +kernel⟩
theorem dL_411 : decode code 411 = .ok (.aload_n 1, 1) := by decide +kernel
theorem dL_412 : decode code 412 = .ok (.invokevirtual 37, 3) := by decide +kernel
theorem dL_415 : decode code 415 = .ok (.aload_n 2, 1) := by decide +kernel
theorem dL_416 : decode code 416 = .ok (.invokevirtual 40, 3) := by decide +kernel
theorem dL_419 : decode code 419 = .ok (.if_icmp .eq 1181, 3) := by decide +kernel
theorem dL_422 : decode code 422 = .ok (.iconst 0, 1) := by decide +kernel
theorem dL_423 : decode code 423 = .ok (.ireturn, 1) := by decide +kernel
theorem case_5 (C : CL p s m meth c b L xs D cA aC aR) {i : Nat} {MC MR : Mem} (hi : i + 4 ≤ L) (hL : L ≤ 2048) (hI : Inv MC MR) (kk : ∀ MC' MR' : Mem, Inv MC' MR' → KL p l e s m below meth c b D cA aC aR 1600 (lvL b aC aR i) [] MC' MR') : KL p l e s m below meth c b D cA aC aR 411 (lvL b aC aR i) [] MC MR := by
  obtain ⟨v, MC', MR', e1, e2, hI2⟩ := sim_empties hI
  refine w_ald C 1 (by decide) rfl rfl dL_411 ?_
  refine w_callCi C (As := []) (c_X11_empties C.2.2.2.2.1 _ _ e1) mlw_X11_empties (bw 618 (by decide +kernel) (by decide +kernel)) rfl rfl (st := []) rfl ⟨Nat.le_of_ble_eq_true rfl, Nat.le_of_ble_eq_true rfl⟩ (Nat.le_of_ble_eq_true rfl) dL_412 ?_
  refine w_ald C 2 (by decide) rfl rfl dL_415 ?_
  refine w_callRi C (As := []) (c_X12_empties C.2.2.2.2.2.1 _ _ e2) mlw_X12_empties (bw 1470 (by decide +kernel) (by decide +kernel)) rfl rfl (st := [.int v]) rfl ⟨Nat.le_of_ble_eq_true rfl, Nat.le_of_ble_eq_true rfl⟩ (Nat.le_of_ble_eq_true rfl) dL_416 ?_
  exact w_eq C (tgt := 1600) dL_419 (by decide) (kk MC' MR' hI2)
theorem mlw_X11_turn : ML yX11_turn cX11_turn 6 (some .int) 3 := ⟨(bw 623 (by decide +kernel) (by decide +kernel)), (bw 624 (by decide +kernel) (by decide +kernel)), (bw 99 (by decide +kernel) (by decide +kernel)), (bw 625 (by decide +kernel) (by decide +kernel)), ⟨by decide +kernel, by decide +kernel⟩, by decide +kernel⟩
theorem mlw_X12_turn : ML yX12_turn cX12_turn 6 (some .int) 3 := ⟨(bw 1475 (by decide +kernel) (by decide +kernel)), (bw 1476 (by decide +kernel) (by decide +kernel)), (bw 111 (by decide +kernel) (by decide +kernel)), (bw 1477 (by decide +kernel) (by decide +kernel)), ⟨by decide +kernel, by decide +kernel⟩, by decide +kernel⟩
theorem dL_424 : decode code 424 = .ok (.aload_n 1, 1) := by decide +kernel
theorem dL_425 : decode code 425 = .ok (.aload_n 0, 1) := by decide +kernel
theorem dL_426 : decode code 426 = .ok (.iload_n 3, 1) := by decide +kernel
theorem dL_427 : decode code 427 = .ok (.iconst 1, 1) := by decide +kernel
theorem dL_428 : decode code 428 = .ok (.iadd, 1) := by decide +kernel
theorem dL_429 : decode code 429 = .ok (.iaload, 1) := by decide +kernel
theorem dL_430 : decode code 430 = .ok (.aload_n 0, 1) := by decide +kernel
theorem dL_431 : decode code 431 = .ok (.iload_n 3, 1) := by decide +kernel
theorem dL_432 : decode code 432 = .ok (.iconst 2, 1) := by decide +kernel
theorem dL_433 : decode code 433 = .ok (.iadd, 1) := by decide +kernel
theorem dL_434 : decode code 434 = .ok (.iaload, 1) := by decide +kernel
theorem dL_435 : decode code 435 = .ok (.aload_n 0, 1) := by decide +kernel
theorem dL_436 : decode code 436 = .ok (.iload_n 3, 1) := by decide +kernel
theorem dL_437 : decode code 437 = .ok (.iconst 3, 1) := by decide +kernel
theorem dL_438 : decode code 438 = .ok (.iadd, 1) := by decide +kernel
theorem dL_439 : decode code 439 = .ok (.iaload, 1) := by decide +kernel
theorem dL_440 : decode code 440 = .ok (.invokevirtual 41, 3) := by decide +kernel
theorem dL_443 : decode code 443 = .ok (.aload_n 2, 1) := by decide +kernel
theorem dL_444 : decode code 444 = .ok (.aload_n 0, 1) := by decide +kernel
theorem dL_445 : decode code 445 = .ok (.iload_n 3, 1) := by decide +kernel
theorem dL_446 : decode code 446 = .ok (.iconst 1, 1) := by decide +kernel
theorem dL_447 : decode code 447 = .ok (.iadd, 1) := by decide +kernel
theorem dL_448 : decode code 448 = .ok (.iaload, 1) := by decide +kernel
theorem dL_449 : decode code 449 = .ok (.aload_n 0, 1) := by decide +kernel
theorem dL_450 : decode code 450 = .ok (.iload_n 3, 1) := by decide +kernel
theorem dL_451 : decode code 451 = .ok (.iconst 2, 1) := by decide +kernel
theorem dL_452 : decode code 452 = .ok (.iadd, 1) := by decide +kernel
theorem dL_453 : decode code 453 = .ok (.iaload, 1) := by decide +kernel
theorem dL_454 : decode code 454 = .ok (.aload_n 0, 1) := by decide +kernel
theorem dL_455 : decode code 455 = .ok (.iload_n 3, 1) := by decide +kernel
theorem dL_456 : decode code 456 = .ok (.iconst 3, 1) := by decide +kernel
theorem dL_457 : decode code 457 = .ok (.iadd, 1) := by decide +kernel
theorem dL_458 : decode code 458 = .ok (.iaload, 1) := by decide +kernel
theorem dL_459 : decode code 459 = .ok (.invokevirtual 44, 3) := by decide +kernel
theorem dL_462 : decode code 462 = .ok (.if_icmp .eq 1138, 3) := by decide +kernel
theorem dL_465 : decode code 465 = .ok (.iconst 0, 1) := by decide +kernel
theorem dL_466 : decode code 466 = .ok (.ireturn, 1) := by decide +kernel
theorem case_6 (C : CL p s m meth c b L xs D cA aC aR) {i : Nat} {MC MR : Mem} (hi : i + 4 ≤ L) (hL : L ≤ 2048) (hI : Inv MC MR) (kk : ∀ MC' MR' : Mem, Inv MC' MR' → KL p l e s m below meth c b D cA aC aR 1600 (lvL b aC aR i) [] MC' MR') : KL p l e s m below meth c b D cA aC aR 424 (lvL b aC aR i) [] MC MR := by
  obtain ⟨v, MC', MR', e1, e2, hI2⟩ := sim_turn hI (xs (i + 1)) (xs (i + 2)) (xs (i + 3))
  refine w_ald C 1 (by decide) rfl rfl dL_424 ?_
  refine w_arg (k := 1) C (by omega) (by omega) dL_425 dL_426 dL_427 (by decide) dL_428 dL_429 ?_
  refine w_arg (k := 2) C (by omega) (by omega) dL_430 dL_431 dL_432 (by decide) dL_433 dL_434 ?_
  refine w_arg (k := 3) C (by omega) (by omega) dL_435 dL_436 dL_437 (by decide) dL_438 dL_439 ?_
  refine w_callCi C (As := [.int (xs (i + 1)), .int (xs (i + 2)), .int (xs (i + 3))]) (c_X11_turn C.2.2.2.2.1 (xs (i + 1)) (xs (i + 2)) (xs (i + 3)) _ _ e1) mlw_X11_turn (bw 622 (by decide +kernel) (by decide +kernel)) rfl rfl (st := []) rfl ⟨Nat.le_of_ble_eq_true rfl, Nat.le_of_ble_eq_true rfl⟩ (Nat.le_of_ble_eq_true rfl) dL_440 ?_
  refine w_ald C 2 (by decide) rfl rfl dL_443 ?_
  refine w_arg (k := 1) C (by omega) (by omega) dL_444 dL_445 dL_446 (by decide) dL_447 dL_448 ?_
  refine w_arg (k := 2) C (by omega) (by omega) dL_449 dL_450 dL_451 (by decide) dL_452 dL_453 ?_
  refine w_arg (k := 3) C (by omega) (by omega) dL_454 dL_455 dL_456 (by decide) dL_457 dL_458 ?_
  refine w_callRi C (As := [.int (xs (i + 1)), .int (xs (i + 2)), .int (xs (i + 3))]) (c_X12_turn C.2.2.2.2.2.1 (xs (i + 1)) (xs (i + 2)) (xs (i + 3)) _ _ e2) mlw_X12_turn (bw 1474 (by decide +kernel) (by decide +kernel)) rfl rfl (st := [.int v]) rfl ⟨Nat.le_of_ble_eq_true rfl, Nat.le_of_ble_eq_true rfl⟩ (Nat.le_of_ble_eq_true rfl) dL_459 ?_
  exact w_eq C (tgt := 1600) dL_462 (by decide) (kk MC' MR' hI2)
theorem mlw_X11_marks : ML yX11_marks cX11_marks 3 (some .int) 2 := ⟨(bw 628 (by decide +kernel) (by decide +kernel)), (bw 629 (by decide +kernel) (by decide +kernel)), (bw 99 (by decide +kernel) (by decide +kernel)), (bw 630 (by decide +kernel) (by decide +kernel)), ⟨by decide +kernel, by decide +kernel⟩, by decide +kernel⟩
theorem mlw_X12_marks : ML yX12_marks cX12_marks 3 (some .int) 2 := ⟨(bw 1479 (by decide +kernel) (by decide +kernel)), (bw 1480 (by decide +kernel) (by decide +kernel)), (bw 111 (by decide +kernel) (by decide +kernel)), (bw 1481 (by decide +kernel) (by decide +kernel)), ⟨by decide +kernel, by decide +kernel⟩, by decide +kernel⟩
theorem dL_467 : decode code 467 = .ok (.aload_n 1, 1) := by decide +kernel
theorem dL_468 : decode code 468 = .ok (.aload_n 0, 1) := by decide +kernel
theorem dL_469 : decode code 469 = .ok (.iload_n 3, 1) := by decide +kernel
theorem dL_470 : decode code 470 = .ok (.iconst 1, 1) := by decide +kernel
theorem dL_471 : decode code 471 = .ok (.iadd, 1) := by decide +kernel
theorem dL_472 : decode code 472 = .ok (.iaload, 1) := by decide +kernel
theorem dL_473 : decode code 473 = .ok (.aload_n 0, 1) := by decide +kernel
theorem dL_474 : decode code 474 = .ok (.iload_n 3, 1) := by decide +kernel
theorem dL_475 : decode code 475 = .ok (.iconst 2, 1) := by decide +kernel
theorem dL_476 : decode code 476 = .ok (.iadd, 1) := by decide +kernel
theorem dL_477 : decode code 477 = .ok (.iaload, 1) := by decide +kernel
theorem dL_478 : decode code 478 = .ok (.invokevirtual 45, 3) := by decide +kernel
theorem dL_481 : decode code 481 = .ok (.aload_n 2, 1) := by decide +kernel
theorem dL_482 : decode code 482 = .ok (.aload_n 0, 1) := by decide +kernel
theorem dL_483 : decode code 483 = .ok (.iload_n 3, 1) := by decide +kernel
theorem dL_484 : decode code 484 = .ok (.iconst 1, 1) := by decide +kernel
theorem dL_485 : decode code 485 = .ok (.iadd, 1) := by decide +kernel
theorem dL_486 : decode code 486 = .ok (.iaload, 1) := by decide +kernel
theorem dL_487 : decode code 487 = .ok (.aload_n 0, 1) := by decide +kernel
theorem dL_488 : decode code 488 = .ok (.iload_n 3, 1) := by decide +kernel
theorem dL_489 : decode code 489 = .ok (.iconst 2, 1) := by decide +kernel
theorem dL_490 : decode code 490 = .ok (.iadd, 1) := by decide +kernel
theorem dL_491 : decode code 491 = .ok (.iaload, 1) := by decide +kernel
theorem dL_492 : decode code 492 = .ok (.invokevirtual 48, 3) := by decide +kernel
theorem dL_495 : decode code 495 = .ok (.if_icmp .eq 1105, 3) := by decide +kernel
theorem dL_498 : decode code 498 = .ok (.iconst 0, 1) := by decide +kernel
theorem dL_499 : decode code 499 = .ok (.ireturn, 1) := by decide +kernel
theorem case_7 (C : CL p s m meth c b L xs D cA aC aR) {i : Nat} {MC MR : Mem} (hi : i + 4 ≤ L) (hL : L ≤ 2048) (hI : Inv MC MR) (kk : ∀ MC' MR' : Mem, Inv MC' MR' → KL p l e s m below meth c b D cA aC aR 1600 (lvL b aC aR i) [] MC' MR') : KL p l e s m below meth c b D cA aC aR 467 (lvL b aC aR i) [] MC MR := by
  obtain ⟨v, MC', MR', e1, e2, hI2⟩ := sim_marks hI (xs (i + 1)) (xs (i + 2))
  refine w_ald C 1 (by decide) rfl rfl dL_467 ?_
  refine w_arg (k := 1) C (by omega) (by omega) dL_468 dL_469 dL_470 (by decide) dL_471 dL_472 ?_
  refine w_arg (k := 2) C (by omega) (by omega) dL_473 dL_474 dL_475 (by decide) dL_476 dL_477 ?_
  refine w_callCi C (As := [.int (xs (i + 1)), .int (xs (i + 2))]) (c_X11_marks C.2.2.2.2.1 (xs (i + 1)) (xs (i + 2)) _ _ e1) mlw_X11_marks (bw 627 (by decide +kernel) (by decide +kernel)) rfl rfl (st := []) rfl ⟨Nat.le_of_ble_eq_true rfl, Nat.le_of_ble_eq_true rfl⟩ (Nat.le_of_ble_eq_true rfl) dL_478 ?_
  refine w_ald C 2 (by decide) rfl rfl dL_481 ?_
  refine w_arg (k := 1) C (by omega) (by omega) dL_482 dL_483 dL_484 (by decide) dL_485 dL_486 ?_
  refine w_arg (k := 2) C (by omega) (by omega) dL_487 dL_488 dL_489 (by decide) dL_490 dL_491 ?_
  refine w_callRi C (As := [.int (xs (i + 1)), .int (xs (i + 2))]) (c_X12_marks C.2.2.2.2.2.1 (xs (i + 1)) (xs (i + 2)) _ _ e2) mlw_X12_marks (bw 1478 (by decide +kernel) (by decide +kernel)) rfl rfl (st := [.int v]) rfl ⟨Nat.le_of_ble_eq_true rfl, Nat.le_of_ble_eq_true rfl⟩ (Nat.le_of_ble_eq_true rfl) dL_492 ?_
  exact w_eq C (tgt := 1600) dL_495 (by decide) (kk MC' MR' hI2)
theorem mlw_X11_law : ML yX11_law cX11_law 5 (some .int) 2 := ⟨(bw 634 (by decide +kernel) (by decide +kernel)), (bw 635 (by decide +kernel) (by decide +kernel)), (bw 99 (by decide +kernel) (by decide +kernel)), (bw 636 (by decide +kernel) (by decide +kernel)), ⟨by decide +kernel, by decide +kernel⟩, by decide +kernel⟩
theorem mlw_X12_law : ML yX12_law cX12_law 5 (some .int) 2 := ⟨(bw 1483 (by decide +kernel) (by decide +kernel)), (bw 1484 (by decide +kernel) (by decide +kernel)), (bw 111 (by decide +kernel) (by decide +kernel)), (bw 1485 (by decide +kernel) (by decide +kernel)), ⟨by decide +kernel, by decide +kernel⟩, by decide +kernel⟩
theorem dL_500 : decode code 500 = .ok (.aload_n 1, 1) := by decide +kernel
theorem dL_501 : decode code 501 = .ok (.aload_n 0, 1) := by decide +kernel
theorem dL_502 : decode code 502 = .ok (.iload_n 3, 1) := by decide +kernel
theorem dL_503 : decode code 503 = .ok (.iconst 1, 1) := by decide +kernel
theorem dL_504 : decode code 504 = .ok (.iadd, 1) := by decide +kernel
theorem dL_505 : decode code 505 = .ok (.iaload, 1) := by decide +kernel
theorem dL_506 : decode code 506 = .ok (.aload_n 0, 1) := by decide +kernel
theorem dL_507 : decode code 507 = .ok (.iload_n 3, 1) := by decide +kernel
theorem dL_508 : decode code 508 = .ok (.iconst 2, 1) := by decide +kernel
theorem dL_509 : decode code 509 = .ok (.iadd, 1) := by decide +kernel
theorem dL_510 : decode code 510 = .ok (.iaload, 1) := by decide +kernel
theorem dL_511 : decode code 511 = .ok (.invokevirtual 49, 3) := by decide +kernel
theorem dL_514 : decode code 514 = .ok (.aload_n 2, 1) := by decide +kernel
theorem dL_515 : decode code 515 = .ok (.aload_n 0, 1) := by decide +kernel
theorem dL_516 : decode code 516 = .ok (.iload_n 3, 1) := by decide +kernel
theorem dL_517 : decode code 517 = .ok (.iconst 1, 1) := by decide +kernel
theorem dL_518 : decode code 518 = .ok (.iadd, 1) := by decide +kernel
theorem dL_519 : decode code 519 = .ok (.iaload, 1) := by decide +kernel
theorem dL_520 : decode code 520 = .ok (.aload_n 0, 1) := by decide +kernel
theorem dL_521 : decode code 521 = .ok (.iload_n 3, 1) := by decide +kernel
theorem dL_522 : decode code 522 = .ok (.iconst 2, 1) := by decide +kernel
theorem dL_523 : decode code 523 = .ok (.iadd, 1) := by decide +kernel
theorem dL_524 : decode code 524 = .ok (.iaload, 1) := by decide +kernel
theorem dL_525 : decode code 525 = .ok (.invokevirtual 52, 3) := by decide +kernel
theorem dL_528 : decode code 528 = .ok (.if_icmp .eq 1072, 3) := by decide +kernel
theorem dL_531 : decode code 531 = .ok (.iconst 0, 1) := by decide +kernel
theorem dL_532 : decode code 532 = .ok (.ireturn, 1) := by decide +kernel
theorem case_8 (C : CL p s m meth c b L xs D cA aC aR) {i : Nat} {MC MR : Mem} (hi : i + 4 ≤ L) (hL : L ≤ 2048) (hI : Inv MC MR) (kk : ∀ MC' MR' : Mem, Inv MC' MR' → KL p l e s m below meth c b D cA aC aR 1600 (lvL b aC aR i) [] MC' MR') : KL p l e s m below meth c b D cA aC aR 500 (lvL b aC aR i) [] MC MR := by
  obtain ⟨v, MC', MR', e1, e2, hI2⟩ := sim_law hI (xs (i + 1)) (xs (i + 2))
  refine w_ald C 1 (by decide) rfl rfl dL_500 ?_
  refine w_arg (k := 1) C (by omega) (by omega) dL_501 dL_502 dL_503 (by decide) dL_504 dL_505 ?_
  refine w_arg (k := 2) C (by omega) (by omega) dL_506 dL_507 dL_508 (by decide) dL_509 dL_510 ?_
  refine w_callCi C (As := [.int (xs (i + 1)), .int (xs (i + 2))]) (c_X11_law C.2.2.2.2.1 (xs (i + 1)) (xs (i + 2)) _ _ e1) mlw_X11_law (bw 633 (by decide +kernel) (by decide +kernel)) rfl rfl (st := []) rfl ⟨Nat.le_of_ble_eq_true rfl, Nat.le_of_ble_eq_true rfl⟩ (Nat.le_of_ble_eq_true rfl) dL_511 ?_
  refine w_ald C 2 (by decide) rfl rfl dL_514 ?_
  refine w_arg (k := 1) C (by omega) (by omega) dL_515 dL_516 dL_517 (by decide) dL_518 dL_519 ?_
  refine w_arg (k := 2) C (by omega) (by omega) dL_520 dL_521 dL_522 (by decide) dL_523 dL_524 ?_
  refine w_callRi C (As := [.int (xs (i + 1)), .int (xs (i + 2))]) (c_X12_law C.2.2.2.2.2.1 (xs (i + 1)) (xs (i + 2)) _ _ e2) mlw_X12_law (bw 1482 (by decide +kernel) (by decide +kernel)) rfl rfl (st := [.int v]) rfl ⟨Nat.le_of_ble_eq_true rfl, Nat.le_of_ble_eq_true rfl⟩ (Nat.le_of_ble_eq_true rfl) dL_525 ?_
  exact w_eq C (tgt := 1600) dL_528 (by decide) (kk MC' MR' hI2)
theorem mlw_X11_back : ML yX11_back cX11_back 1 (some .int) 0 := ⟨(bw 640 (by decide +kernel) (by decide +kernel)), (bw 641 (by decide +kernel) (by decide +kernel)), (bw 99 (by decide +kernel) (by decide +kernel)), (bw 642 (by decide +kernel) (by decide +kernel)), ⟨by decide +kernel, by decide +kernel⟩, by decide +kernel⟩
theorem mlw_X12_back : ML yX12_back cX12_back 1 (some .int) 0 := ⟨(bw 1424 (by decide +kernel) (by decide +kernel)), (bw 1425 (by decide +kernel) (by decide +kernel)), (bw 111 (by decide +kernel) (by decide +kernel)), (bw 1426 (by decide +kernel) (by decide +kernel)), ⟨by decide +kernel, by decide +kernel⟩, by decide +kernel⟩
theorem dL_533 : decode code 533 = .ok (.aload_n 1, 1) := by decide +kernel
theorem dL_534 : decode code 534 = .ok (.invokevirtual 53, 3) := by decide +kernel
theorem dL_537 : decode code 537 = .ok (.aload_n 2, 1) := by decide +kernel
theorem dL_538 : decode code 538 = .ok (.invokevirtual 56, 3) := by decide +kernel
theorem dL_541 : decode code 541 = .ok (.if_icmp .eq 1059, 3) := by decide +kernel
theorem dL_544 : decode code 544 = .ok (.iconst 0, 1) := by decide +kernel
theorem dL_545 : decode code 545 = .ok (.ireturn, 1) := by decide +kernel
theorem case_9 (C : CL p s m meth c b L xs D cA aC aR) {i : Nat} {MC MR : Mem} (hi : i + 4 ≤ L) (hL : L ≤ 2048) (hI : Inv MC MR) (kk : ∀ MC' MR' : Mem, Inv MC' MR' → KL p l e s m below meth c b D cA aC aR 1600 (lvL b aC aR i) [] MC' MR') : KL p l e s m below meth c b D cA aC aR 533 (lvL b aC aR i) [] MC MR := by
  obtain ⟨v, MC', MR', e1, e2, hI2⟩ := sim_back hI
  refine w_ald C 1 (by decide) rfl rfl dL_533 ?_
  refine w_callCi C (As := []) (c_X11_back C.2.2.2.2.1 _ _ e1) mlw_X11_back (bw 639 (by decide +kernel) (by decide +kernel)) rfl rfl (st := []) rfl ⟨Nat.le_of_ble_eq_true rfl, Nat.le_of_ble_eq_true rfl⟩ (Nat.le_of_ble_eq_true rfl) dL_534 ?_
  refine w_ald C 2 (by decide) rfl rfl dL_537 ?_
  refine w_callRi C (As := []) (c_X12_back C.2.2.2.2.2.1 _ _ e2) mlw_X12_back (bw 1423 (by decide +kernel) (by decide +kernel)) rfl rfl (st := [.int v]) rfl ⟨Nat.le_of_ble_eq_true rfl, Nat.le_of_ble_eq_true rfl⟩ (Nat.le_of_ble_eq_true rfl) dL_538 ?_
  exact w_eq C (tgt := 1600) dL_541 (by decide) (kk MC' MR' hI2)
theorem mlw_X11_same : ML yX11_same cX11_same 3 (some .int) 2 := ⟨(bw 654 (by decide +kernel) (by decide +kernel)), (bw 655 (by decide +kernel) (by decide +kernel)), (bw 99 (by decide +kernel) (by decide +kernel)), (bw 656 (by decide +kernel) (by decide +kernel)), ⟨by decide +kernel, by decide +kernel⟩, by decide +kernel⟩
theorem mlw_X12_same : ML yX12_same cX12_same 3 (some .int) 2 := ⟨(bw 1487 (by decide +kernel) (by decide +kernel)), (bw 1488 (by decide +kernel) (by decide +kernel)), (bw 111 (by decide +kernel) (by decide +kernel)), (bw 1489 (by decide +kernel) (by decide +kernel)), ⟨by decide +kernel, by decide +kernel⟩, by decide +kernel⟩
theorem dL_546 : decode code 546 = .ok (.aload_n 1, 1) := by decide +kernel
theorem dL_547 : decode code 547 = .ok (.aload_n 0, 1) := by decide +kernel
theorem dL_548 : decode code 548 = .ok (.iload_n 3, 1) := by decide +kernel
theorem dL_549 : decode code 549 = .ok (.iconst 1, 1) := by decide +kernel
theorem dL_550 : decode code 550 = .ok (.iadd, 1) := by decide +kernel
theorem dL_551 : decode code 551 = .ok (.iaload, 1) := by decide +kernel
theorem dL_552 : decode code 552 = .ok (.aload_n 0, 1) := by decide +kernel
theorem dL_553 : decode code 553 = .ok (.iload_n 3, 1) := by decide +kernel
theorem dL_554 : decode code 554 = .ok (.iconst 2, 1) := by decide +kernel
theorem dL_555 : decode code 555 = .ok (.iadd, 1) := by decide +kernel
theorem dL_556 : decode code 556 = .ok (.iaload, 1) := by decide +kernel
theorem dL_557 : decode code 557 = .ok (.invokevirtual 57, 3) := by decide +kernel
theorem dL_560 : decode code 560 = .ok (.aload_n 2, 1) := by decide +kernel
theorem dL_561 : decode code 561 = .ok (.aload_n 0, 1) := by decide +kernel
theorem dL_562 : decode code 562 = .ok (.iload_n 3, 1) := by decide +kernel
theorem dL_563 : decode code 563 = .ok (.iconst 1, 1) := by decide +kernel
theorem dL_564 : decode code 564 = .ok (.iadd, 1) := by decide +kernel
theorem dL_565 : decode code 565 = .ok (.iaload, 1) := by decide +kernel
theorem dL_566 : decode code 566 = .ok (.aload_n 0, 1) := by decide +kernel
theorem dL_567 : decode code 567 = .ok (.iload_n 3, 1) := by decide +kernel
theorem dL_568 : decode code 568 = .ok (.iconst 2, 1) := by decide +kernel
theorem dL_569 : decode code 569 = .ok (.iadd, 1) := by decide +kernel
theorem dL_570 : decode code 570 = .ok (.iaload, 1) := by decide +kernel
theorem dL_571 : decode code 571 = .ok (.invokevirtual 60, 3) := by decide +kernel
theorem dL_574 : decode code 574 = .ok (.if_icmp .eq 1026, 3) := by decide +kernel
theorem dL_577 : decode code 577 = .ok (.iconst 0, 1) := by decide +kernel
theorem dL_578 : decode code 578 = .ok (.ireturn, 1) := by decide +kernel
theorem case_10 (C : CL p s m meth c b L xs D cA aC aR) {i : Nat} {MC MR : Mem} (hi : i + 4 ≤ L) (hL : L ≤ 2048) (hI : Inv MC MR) (kk : ∀ MC' MR' : Mem, Inv MC' MR' → KL p l e s m below meth c b D cA aC aR 1600 (lvL b aC aR i) [] MC' MR') : KL p l e s m below meth c b D cA aC aR 546 (lvL b aC aR i) [] MC MR := by
  obtain ⟨v, MC', MR', e1, e2, hI2⟩ := sim_same hI (xs (i + 1)) (xs (i + 2))
  refine w_ald C 1 (by decide) rfl rfl dL_546 ?_
  refine w_arg (k := 1) C (by omega) (by omega) dL_547 dL_548 dL_549 (by decide) dL_550 dL_551 ?_
  refine w_arg (k := 2) C (by omega) (by omega) dL_552 dL_553 dL_554 (by decide) dL_555 dL_556 ?_
  refine w_callCi C (As := [.int (xs (i + 1)), .int (xs (i + 2))]) (c_X11_same C.2.2.2.2.1 (xs (i + 1)) (xs (i + 2)) _ _ e1) mlw_X11_same (bw 653 (by decide +kernel) (by decide +kernel)) rfl rfl (st := []) rfl ⟨Nat.le_of_ble_eq_true rfl, Nat.le_of_ble_eq_true rfl⟩ (Nat.le_of_ble_eq_true rfl) dL_557 ?_
  refine w_ald C 2 (by decide) rfl rfl dL_560 ?_
  refine w_arg (k := 1) C (by omega) (by omega) dL_561 dL_562 dL_563 (by decide) dL_564 dL_565 ?_
  refine w_arg (k := 2) C (by omega) (by omega) dL_566 dL_567 dL_568 (by decide) dL_569 dL_570 ?_
  refine w_callRi C (As := [.int (xs (i + 1)), .int (xs (i + 2))]) (c_X12_same C.2.2.2.2.2.1 (xs (i + 1)) (xs (i + 2)) _ _ e2) mlw_X12_same (bw 1486 (by decide +kernel) (by decide +kernel)) rfl rfl (st := [.int v]) rfl ⟨Nat.le_of_ble_eq_true rfl, Nat.le_of_ble_eq_true rfl⟩ (Nat.le_of_ble_eq_true rfl) dL_571 ?_
  exact w_eq C (tgt := 1600) dL_574 (by decide) (kk MC' MR' hI2)
end CASES
