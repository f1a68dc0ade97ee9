/-! ===== one call of the law, no cache ===== -/
section LAWC
variable {C : zX} {E : zE} {b L o j k n e : Nat} {xs : Nat → Int32} {q : Nat → Nat} {s : Nat → Int32} {a : Nat → Nat → Int32} {g : Nat → Option Nat} {vt vd : Value} {mq : Nat → Nat} {ms : Nat → Int32} {ma : Nat → Nat → Int32} {sl : Int64} {vr : Value} {rs : Nat → Nat → Nat} {ss : Nat → Nat → Int32} {ca : Nat → Nat → Nat → Int32} {f : Nat → Int64}
set_option maxHeartbeats 1000000 in
theorem cn_feed (h : zLaw C E b L o j k n xs) (he : e = 0) (H : zGN s a g ms ma rs) : J C k n (WX E q s a g vt vd ++ (IM E rs ss ca e ++ (WN E mq ms ma sl vr ++ zO E o f))) [(0, .ref b), (1, .ref (q 0)), (2, .ref (mq 0)), (3, .ref o), (4, .int (nI (6 * j)))] 256 [] := by
  obtain ⟨hC, hS, hj, hL, hk, hn, kc, kn⟩ := h
  obtain ⟨x, y, e1, e2, e3, H'⟩ := rn_feed H (xs (6 * j + 1)) (xs (6 * j + 2)) (xs (6 * j + 3)) (xs (6 * j + 4)) (xs (6 * j + 5))
  refine j_aload_n (q := 257) hC dL_law_256 rfl rfl 1 rfl ?_
  refine j_arg (q := 263) (v := 1) hC hS rfl rfl (by decide) (by omega) hL dL_law_257 dL_law_258 dL_law_260 dL_law_261 dL_law_262 rfl ?_
  refine j_arg (q := 269) (v := 2) hC hS rfl rfl (by decide) (by omega) hL dL_law_263 dL_law_264 dL_law_266 dL_law_267 dL_law_268 rfl ?_
  refine j_arg (q := 275) (v := 3) hC hS rfl rfl (by decide) (by omega) hL dL_law_269 dL_law_270 dL_law_272 dL_law_273 dL_law_274 rfl ?_
  refine j_arg (q := 281) (v := 4) hC hS rfl rfl (by decide) (by omega) hL dL_law_275 dL_law_276 dL_law_278 dL_law_279 dL_law_280 rfl ?_
  refine j_arg (q := 287) (v := 5) hC hS rfl rfl (by decide) (by omega) hL dL_law_281 dL_law_282 dL_law_284 dL_law_285 dL_law_286 rfl ?_
  refine lX_feed hC q s a g vt vd (xs (6 * j + 1)) (xs (6 * j + 2)) (xs (6 * j + 3)) (xs (6 * j + 4)) (xs (6 * j + 5)) x e1 [] zk_X5_feed ⟨rfl, rfl, by decide, by decide, Nat.le_trans (by omega) (show 601024 ≤ room_1.cells from Nat.le_refl _), Nat.le_trans (by omega) (show 7293034 ≤ room_1.slots from Nat.le_refl _)⟩ (by decide) dL_law_287 rfl ?_
  refine j_aload_n (q := 291) hC dL_law_290 rfl rfl 2 rfl ?_
  refine j_arg (q := 297) (v := 1) hC hS rfl rfl (by decide) (by omega) hL dL_law_291 dL_law_292 dL_law_294 dL_law_295 dL_law_296 rfl ?_
  refine j_arg (q := 303) (v := 2) hC hS rfl rfl (by decide) (by omega) hL dL_law_297 dL_law_298 dL_law_300 dL_law_301 dL_law_302 rfl ?_
  refine j_arg (q := 309) (v := 3) hC hS rfl rfl (by decide) (by omega) hL dL_law_303 dL_law_304 dL_law_306 dL_law_307 dL_law_308 rfl ?_
  refine j_arg (q := 315) (v := 4) hC hS rfl rfl (by decide) (by omega) hL dL_law_309 dL_law_310 dL_law_312 dL_law_313 dL_law_314 rfl ?_
  refine j_arg (q := 321) (v := 5) hC hS rfl rfl (by decide) (by omega) hL dL_law_315 dL_law_316 dL_law_318 dL_law_319 dL_law_320 rfl ?_
  refine j_Perm zP_in ?_
  refine lN_feed hC mq ms ma sl vr (xs (6 * j + 1)) (xs (6 * j + 2)) (xs (6 * j + 3)) (xs (6 * j + 4)) (xs (6 * j + 5)) y e2 [.int x.1] zk_X7_feed ⟨rfl, rfl, by decide, by decide, Nat.le_trans (by omega) (show 601024 ≤ room_1.cells from Nat.le_refl _), Nat.le_trans (by omega) (show 7293034 ≤ room_1.slots from Nat.le_refl _)⟩ (Nat.le_of_ble_eq_true rfl) dL_law_321 rfl ?_
  refine j_Perm zP_out ?_
  refine j_cmp (tgt := 1592) hC e3 dL_law_324 (by decide) ?_
  exact kn _ _ _ _ _ _ _ _ _ _ _ _ _ _ _ _ _ _ he (by omega) (by omega) H'
set_option maxHeartbeats 1000000 in
theorem cn_fault (h : zLaw C E b L o j k n xs) (he : e = 0) (H : zGN s a g ms ma rs) : J C k n (WX E q s a g vt vd ++ (IM E rs ss ca e ++ (WN E mq ms ma sl vr ++ zO E o f))) [(0, .ref b), (1, .ref (q 0)), (2, .ref (mq 0)), (3, .ref o), (4, .int (nI (6 * j)))] 354 [] := by
  obtain ⟨hC, hS, hj, hL, hk, hn, kc, kn⟩ := h
  obtain ⟨x, y, e1, e2, e3, H'⟩ := rn_fault H 
  refine j_aload_n (q := 355) hC dL_law_354 rfl rfl 1 rfl ?_
  refine lX_fault hC q s a g vt vd  x e1 [] zk_X5_fault ⟨rfl, rfl, by decide, by decide, Nat.le_trans (by omega) (show 601024 ≤ room_1.cells from Nat.le_refl _), Nat.le_trans (by omega) (show 7293034 ≤ room_1.slots from Nat.le_refl _)⟩ (by decide) dL_law_355 rfl ?_
  refine j_aload_n (q := 359) hC dL_law_358 rfl rfl 2 rfl ?_
  refine j_Perm zP_in ?_
  refine lN_fault hC mq ms ma sl vr  y e2 [.int x] zk_X7_fault ⟨rfl, rfl, by decide, by decide, Nat.le_trans (by omega) (show 601024 ≤ room_1.cells from Nat.le_refl _), Nat.le_trans (by omega) (show 7293034 ≤ room_1.slots from Nat.le_refl _)⟩ (Nat.le_of_ble_eq_true rfl) dL_law_359 rfl ?_
  refine j_Perm zP_out ?_
  refine j_cmp (tgt := 1592) hC e3 dL_law_362 (by decide) ?_
  exact kn _ _ _ _ _ _ _ _ _ _ _ _ _ _ _ _ _ _ he (by omega) (by omega) H'
set_option maxHeartbeats 1000000 in
theorem cn_where (h : zLaw C E b L o j k n xs) (he : e = 0) (H : zGN s a g ms ma rs) : J C k n (WX E q s a g vt vd ++ (IM E rs ss ca e ++ (WN E mq ms ma sl vr ++ zO E o f))) [(0, .ref b), (1, .ref (q 0)), (2, .ref (mq 0)), (3, .ref o), (4, .int (nI (6 * j)))] 367 [] := by
  obtain ⟨hC, hS, hj, hL, hk, hn, kc, kn⟩ := h
  obtain ⟨x, y, e1, e2, e3, H'⟩ := rn_where H 
  refine j_aload_n (q := 368) hC dL_law_367 rfl rfl 1 rfl ?_
  refine lX_where hC q s a g vt vd  x e1 [] zk_X5_where ⟨rfl, rfl, by decide, by decide, Nat.le_trans (by omega) (show 601024 ≤ room_1.cells from Nat.le_refl _), Nat.le_trans (by omega) (show 7293034 ≤ room_1.slots from Nat.le_refl _)⟩ (by decide) dL_law_368 rfl ?_
  refine j_aload_n (q := 372) hC dL_law_371 rfl rfl 2 rfl ?_
  refine j_Perm zP_in ?_
  refine lN_where hC mq ms ma sl vr  y e2 [.int x] zk_X7_where ⟨rfl, rfl, by decide, by decide, Nat.le_trans (by omega) (show 601024 ≤ room_1.cells from Nat.le_refl _), Nat.le_trans (by omega) (show 7293034 ≤ room_1.slots from Nat.le_refl _)⟩ (Nat.le_of_ble_eq_true rfl) dL_law_372 rfl ?_
  refine j_Perm zP_out ?_
  refine j_cmp (tgt := 1592) hC e3 dL_law_375 (by decide) ?_
  exact kn _ _ _ _ _ _ _ _ _ _ _ _ _ _ _ _ _ _ he (by omega) (by omega) H'
set_option maxHeartbeats 1000000 in
theorem cn_word (h : zLaw C E b L o j k n xs) (he : e = 0) (H : zGN s a g ms ma rs) : J C k n (WX E q s a g vt vd ++ (IM E rs ss ca e ++ (WN E mq ms ma sl vr ++ zO E o f))) [(0, .ref b), (1, .ref (q 0)), (2, .ref (mq 0)), (3, .ref o), (4, .int (nI (6 * j)))] 380 [] := by
  obtain ⟨hC, hS, hj, hL, hk, hn, kc, kn⟩ := h
  obtain ⟨x, y, e1, e2, e3, H'⟩ := rn_word H (xs (6 * j + 1)) (xs (6 * j + 2))
  refine j_aload_n (q := 381) hC dL_law_380 rfl rfl 1 rfl ?_
  refine j_arg (q := 387) (v := 1) hC hS rfl rfl (by decide) (by omega) hL dL_law_381 dL_law_382 dL_law_384 dL_law_385 dL_law_386 rfl ?_
  refine j_arg (q := 393) (v := 2) hC hS rfl rfl (by decide) (by omega) hL dL_law_387 dL_law_388 dL_law_390 dL_law_391 dL_law_392 rfl ?_
  refine lX_word hC q s a g vt vd (xs (6 * j + 1)) (xs (6 * j + 2)) x e1 [] zk_X5_word ⟨rfl, rfl, by decide, by decide, Nat.le_trans (by omega) (show 601024 ≤ room_1.cells from Nat.le_refl _), Nat.le_trans (by omega) (show 7293034 ≤ room_1.slots from Nat.le_refl _)⟩ (by decide) dL_law_393 rfl ?_
  refine j_aload_n (q := 397) hC dL_law_396 rfl rfl 2 rfl ?_
  refine j_arg (q := 403) (v := 1) hC hS rfl rfl (by decide) (by omega) hL dL_law_397 dL_law_398 dL_law_400 dL_law_401 dL_law_402 rfl ?_
  refine j_arg (q := 409) (v := 2) hC hS rfl rfl (by decide) (by omega) hL dL_law_403 dL_law_404 dL_law_406 dL_law_407 dL_law_408 rfl ?_
  refine j_Perm zP_in ?_
  refine lN_word hC mq ms ma sl vr (xs (6 * j + 1)) (xs (6 * j + 2)) y e2 [.int x.1] zk_X7_word ⟨rfl, rfl, by decide, by decide, Nat.le_trans (by omega) (show 601024 ≤ room_1.cells from Nat.le_refl _), Nat.le_trans (by omega) (show 7293034 ≤ room_1.slots from Nat.le_refl _)⟩ (Nat.le_of_ble_eq_true rfl) dL_law_409 rfl ?_
  refine j_Perm zP_out ?_
  refine j_cmp (tgt := 1592) hC e3 dL_law_412 (by decide) ?_
  exact kn _ _ _ _ _ _ _ _ _ _ _ _ _ _ _ _ _ _ he (by omega) (by omega) H'
set_option maxHeartbeats 1000000 in
theorem cn_memory (h : zLaw C E b L o j k n xs) (he : e = 0) (H : zGN s a g ms ma rs) : J C k n (WX E q s a g vt vd ++ (IM E rs ss ca e ++ (WN E mq ms ma sl vr ++ zO E o f))) [(0, .ref b), (1, .ref (q 0)), (2, .ref (mq 0)), (3, .ref o), (4, .int (nI (6 * j)))] 417 [] := by
  obtain ⟨hC, hS, hj, hL, hk, hn, kc, kn⟩ := h
  obtain ⟨x, y, e1, e2, e3, H'⟩ := rn_memory H (xs (6 * j + 1)) (xs (6 * j + 2))
  refine j_aload_n (q := 418) hC dL_law_417 rfl rfl 1 rfl ?_
  refine j_arg (q := 424) (v := 1) hC hS rfl rfl (by decide) (by omega) hL dL_law_418 dL_law_419 dL_law_421 dL_law_422 dL_law_423 rfl ?_
  refine j_arg (q := 430) (v := 2) hC hS rfl rfl (by decide) (by omega) hL dL_law_424 dL_law_425 dL_law_427 dL_law_428 dL_law_429 rfl ?_
  refine lX_memory hC q s a g vt vd (xs (6 * j + 1)) (xs (6 * j + 2)) x e1 [] zk_X5_memory ⟨rfl, rfl, by decide, by decide, Nat.le_trans (by omega) (show 601024 ≤ room_1.cells from Nat.le_refl _), Nat.le_trans (by omega) (show 7293034 ≤ room_1.slots from Nat.le_refl _)⟩ (by decide) dL_law_430 rfl ?_
  refine j_aload_n (q := 434) hC dL_law_433 rfl rfl 2 rfl ?_
  refine j_arg (q := 440) (v := 1) hC hS rfl rfl (by decide) (by omega) hL dL_law_434 dL_law_435 dL_law_437 dL_law_438 dL_law_439 rfl ?_
  refine j_arg (q := 446) (v := 2) hC hS rfl rfl (by decide) (by omega) hL dL_law_440 dL_law_441 dL_law_443 dL_law_444 dL_law_445 rfl ?_
  refine j_Perm zP_in ?_
  refine lN_memory hC mq ms ma sl vr (xs (6 * j + 1)) (xs (6 * j + 2)) y e2 [.int x.1] zk_X7_memory ⟨rfl, rfl, by decide, by decide, Nat.le_trans (by omega) (show 601024 ≤ room_1.cells from Nat.le_refl _), Nat.le_trans (by omega) (show 7293034 ≤ room_1.slots from Nat.le_refl _)⟩ (Nat.le_of_ble_eq_true rfl) dL_law_446 rfl ?_
  refine j_Perm zP_out ?_
  refine j_cmp (tgt := 1592) hC e3 dL_law_449 (by decide) ?_
  exact kn _ _ _ _ _ _ _ _ _ _ _ _ _ _ _ _ _ _ he (by omega) (by omega) H'
set_option maxHeartbeats 1000000 in
theorem cn_form (h : zLaw C E b L o j k n xs) (he : e = 0) (H : zGN s a g ms ma rs) : J C k n (WX E q s a g vt vd ++ (IM E rs ss ca e ++ (WN E mq ms ma sl vr ++ zO E o f))) [(0, .ref b), (1, .ref (q 0)), (2, .ref (mq 0)), (3, .ref o), (4, .int (nI (6 * j)))] 454 [] := by
  obtain ⟨hC, hS, hj, hL, hk, hn, kc, kn⟩ := h
  obtain ⟨x, y, e1, e2, e3, H'⟩ := rn_form H (xs (6 * j + 1))
  refine j_aload_n (q := 455) hC dL_law_454 rfl rfl 1 rfl ?_
  refine j_arg (q := 461) (v := 1) hC hS rfl rfl (by decide) (by omega) hL dL_law_455 dL_law_456 dL_law_458 dL_law_459 dL_law_460 rfl ?_
  refine lX_form hC q s a g vt vd (xs (6 * j + 1)) x e1 [] zk_X5_form ⟨rfl, rfl, by decide, by decide, Nat.le_trans (by omega) (show 601024 ≤ room_1.cells from Nat.le_refl _), Nat.le_trans (by omega) (show 7293034 ≤ room_1.slots from Nat.le_refl _)⟩ (by decide) dL_law_461 rfl ?_
  refine j_aload_n (q := 465) hC dL_law_464 rfl rfl 2 rfl ?_
  refine j_arg (q := 471) (v := 1) hC hS rfl rfl (by decide) (by omega) hL dL_law_465 dL_law_466 dL_law_468 dL_law_469 dL_law_470 rfl ?_
  refine j_Perm zP_in ?_
  refine lN_form hC mq ms ma sl vr (xs (6 * j + 1)) y e2 [.int x.1] zk_X7_form ⟨rfl, rfl, by decide, by decide, Nat.le_trans (by omega) (show 601024 ≤ room_1.cells from Nat.le_refl _), Nat.le_trans (by omega) (show 7293034 ≤ room_1.slots from Nat.le_refl _)⟩ (Nat.le_of_ble_eq_true rfl) dL_law_471 rfl ?_
  refine j_Perm zP_out ?_
  refine j_cmp (tgt := 1592) hC e3 dL_law_474 (by decide) ?_
  exact kn _ _ _ _ _ _ _ _ _ _ _ _ _ _ _ _ _ _ he (by omega) (by omega) H'
set_option maxHeartbeats 1000000 in
theorem cn_bytes (h : zLaw C E b L o j k n xs) (he : e = 0) (H : zGN s a g ms ma rs) : J C k n (WX E q s a g vt vd ++ (IM E rs ss ca e ++ (WN E mq ms ma sl vr ++ zO E o f))) [(0, .ref b), (1, .ref (q 0)), (2, .ref (mq 0)), (3, .ref o), (4, .int (nI (6 * j)))] 479 [] := by
  obtain ⟨hC, hS, hj, hL, hk, hn, kc, kn⟩ := h
  obtain ⟨x, y, e1, e2, e3, H'⟩ := rn_bytes H (xs (6 * j + 1)) (xs (6 * j + 2))
  refine j_aload_n (q := 480) hC dL_law_479 rfl rfl 1 rfl ?_
  refine j_arg (q := 486) (v := 1) hC hS rfl rfl (by decide) (by omega) hL dL_law_480 dL_law_481 dL_law_483 dL_law_484 dL_law_485 rfl ?_
  refine j_arg (q := 492) (v := 2) hC hS rfl rfl (by decide) (by omega) hL dL_law_486 dL_law_487 dL_law_489 dL_law_490 dL_law_491 rfl ?_
  refine lX_bytes hC q s a g vt vd (xs (6 * j + 1)) (xs (6 * j + 2)) x e1 [] zk_X5_bytes ⟨rfl, rfl, by decide, by decide, Nat.le_trans (by omega) (show 601024 ≤ room_1.cells from Nat.le_refl _), Nat.le_trans (by omega) (show 7293034 ≤ room_1.slots from Nat.le_refl _)⟩ (by decide) dL_law_492 rfl ?_
  refine j_aload_n (q := 496) hC dL_law_495 rfl rfl 2 rfl ?_
  refine j_arg (q := 502) (v := 1) hC hS rfl rfl (by decide) (by omega) hL dL_law_496 dL_law_497 dL_law_499 dL_law_500 dL_law_501 rfl ?_
  refine j_arg (q := 508) (v := 2) hC hS rfl rfl (by decide) (by omega) hL dL_law_502 dL_law_503 dL_law_505 dL_law_506 dL_law_507 rfl ?_
  refine j_Perm zP_in ?_
  refine lN_bytes hC mq ms ma sl vr (xs (6 * j + 1)) (xs (6 * j + 2)) y e2 [.int x.1] zk_X7_bytes ⟨rfl, rfl, by decide, by decide, Nat.le_trans (by omega) (show 601024 ≤ room_1.cells from Nat.le_refl _), Nat.le_trans (by omega) (show 7293034 ≤ room_1.slots from Nat.le_refl _)⟩ (Nat.le_of_ble_eq_true rfl) dL_law_508 rfl ?_
  refine j_Perm zP_out ?_
  refine j_cmp (tgt := 1592) hC e3 dL_law_511 (by decide) ?_
  exact kn _ _ _ _ _ _ _ _ _ _ _ _ _ _ _ _ _ _ he (by omega) (by omega) H'
set_option maxHeartbeats 1000000 in
theorem cn_forms (h : zLaw C E b L o j k n xs) (he : e = 0) (H : zGN s a g ms ma rs) : J C k n (WX E q s a g vt vd ++ (IM E rs ss ca e ++ (WN E mq ms ma sl vr ++ zO E o f))) [(0, .ref b), (1, .ref (q 0)), (2, .ref (mq 0)), (3, .ref o), (4, .int (nI (6 * j)))] 516 [] := by
  obtain ⟨hC, hS, hj, hL, hk, hn, kc, kn⟩ := h
  obtain ⟨x, y, e1, e2, e3, H'⟩ := rn_forms H (xs (6 * j + 1))
  refine j_aload_n (q := 517) hC dL_law_516 rfl rfl 1 rfl ?_
  refine j_arg (q := 523) (v := 1) hC hS rfl rfl (by decide) (by omega) hL dL_law_517 dL_law_518 dL_law_520 dL_law_521 dL_law_522 rfl ?_
  refine lX_forms hC q s a g vt vd (xs (6 * j + 1)) x e1 [] zk_X5_forms ⟨rfl, rfl, by decide, by decide, Nat.le_trans (by omega) (show 601024 ≤ room_1.cells from Nat.le_refl _), Nat.le_trans (by omega) (show 7293034 ≤ room_1.slots from Nat.le_refl _)⟩ (by decide) dL_law_523 rfl ?_
  refine j_aload_n (q := 527) hC dL_law_526 rfl rfl 2 rfl ?_
  refine j_arg (q := 533) (v := 1) hC hS rfl rfl (by decide) (by omega) hL dL_law_527 dL_law_528 dL_law_530 dL_law_531 dL_law_532 rfl ?_
  refine j_Perm zP_in ?_
  refine lN_forms hC mq ms ma sl vr (xs (6 * j + 1)) y e2 [.int x.1] zk_X7_forms ⟨rfl, rfl, by decide, by decide, Nat.le_trans (by omega) (show 601024 ≤ room_1.cells from Nat.le_refl _), Nat.le_trans (by omega) (show 7293034 ≤ room_1.slots from Nat.le_refl _)⟩ (Nat.le_of_ble_eq_true rfl) dL_law_533 rfl ?_
  refine j_Perm zP_out ?_
  refine j_cmp (tgt := 1592) hC e3 dL_law_536 (by decide) ?_
  exact kn _ _ _ _ _ _ _ _ _ _ _ _ _ _ _ _ _ _ he (by omega) (by omega) H'
set_option maxHeartbeats 1000000 in
theorem cn_segments (h : zLaw C E b L o j k n xs) (he : e = 0) (H : zGN s a g ms ma rs) : J C k n (WX E q s a g vt vd ++ (IM E rs ss ca e ++ (WN E mq ms ma sl vr ++ zO E o f))) [(0, .ref b), (1, .ref (q 0)), (2, .ref (mq 0)), (3, .ref o), (4, .int (nI (6 * j)))] 541 [] := by
  obtain ⟨hC, hS, hj, hL, hk, hn, kc, kn⟩ := h
  obtain ⟨x, y, e1, e2, e3, H'⟩ := rn_segments H (xs (6 * j + 1))
  refine j_aload_n (q := 542) hC dL_law_541 rfl rfl 1 rfl ?_
  refine j_arg (q := 548) (v := 1) hC hS rfl rfl (by decide) (by omega) hL dL_law_542 dL_law_543 dL_law_545 dL_law_546 dL_law_547 rfl ?_
  refine lX_segments hC q s a g vt vd (xs (6 * j + 1)) x e1 [] zk_X5_segments ⟨rfl, rfl, by decide, by decide, Nat.le_trans (by omega) (show 601024 ≤ room_1.cells from Nat.le_refl _), Nat.le_trans (by omega) (show 7293034 ≤ room_1.slots from Nat.le_refl _)⟩ (by decide) dL_law_548 rfl ?_
  refine j_aload_n (q := 552) hC dL_law_551 rfl rfl 2 rfl ?_
  refine j_arg (q := 558) (v := 1) hC hS rfl rfl (by decide) (by omega) hL dL_law_552 dL_law_553 dL_law_555 dL_law_556 dL_law_557 rfl ?_
  refine j_Perm zP_in ?_
  refine lN_segments hC mq ms ma sl vr (xs (6 * j + 1)) y e2 [.int x.1] zk_X7_segments ⟨rfl, rfl, by decide, by decide, Nat.le_trans (by omega) (show 601024 ≤ room_1.cells from Nat.le_refl _), Nat.le_trans (by omega) (show 7293034 ≤ room_1.slots from Nat.le_refl _)⟩ (Nat.le_of_ble_eq_true rfl) dL_law_558 rfl ?_
  refine j_Perm zP_out ?_
  refine j_cmp (tgt := 1592) hC e3 dL_law_561 (by decide) ?_
  exact kn _ _ _ _ _ _ _ _ _ _ _ _ _ _ _ _ _ _ he (by omega) (by omega) H'
set_option maxHeartbeats 1000000 in
theorem cn_base (h : zLaw C E b L o j k n xs) (he : e = 0) (H : zGN s a g ms ma rs) : J C k n (WX E q s a g vt vd ++ (IM E rs ss ca e ++ (WN E mq ms ma sl vr ++ zO E o f))) [(0, .ref b), (1, .ref (q 0)), (2, .ref (mq 0)), (3, .ref o), (4, .int (nI (6 * j)))] 566 [] := by
  obtain ⟨hC, hS, hj, hL, hk, hn, kc, kn⟩ := h
  obtain ⟨x, y, e1, e2, e3, H'⟩ := rn_base H (xs (6 * j + 1)) (xs (6 * j + 2))
  refine j_aload_n (q := 567) hC dL_law_566 rfl rfl 1 rfl ?_
  refine j_arg (q := 573) (v := 1) hC hS rfl rfl (by decide) (by omega) hL dL_law_567 dL_law_568 dL_law_570 dL_law_571 dL_law_572 rfl ?_
  refine j_arg (q := 579) (v := 2) hC hS rfl rfl (by decide) (by omega) hL dL_law_573 dL_law_574 dL_law_576 dL_law_577 dL_law_578 rfl ?_
  refine lX_base hC q s a g vt vd (xs (6 * j + 1)) (xs (6 * j + 2)) x e1 [] zk_X5_base ⟨rfl, rfl, by decide, by decide, Nat.le_trans (by omega) (show 601024 ≤ room_1.cells from Nat.le_refl _), Nat.le_trans (by omega) (show 7293034 ≤ room_1.slots from Nat.le_refl _)⟩ (by decide) dL_law_579 rfl ?_
  refine j_aload_n (q := 583) hC dL_law_582 rfl rfl 2 rfl ?_
  refine j_arg (q := 589) (v := 1) hC hS rfl rfl (by decide) (by omega) hL dL_law_583 dL_law_584 dL_law_586 dL_law_587 dL_law_588 rfl ?_
  refine j_arg (q := 595) (v := 2) hC hS rfl rfl (by decide) (by omega) hL dL_law_589 dL_law_590 dL_law_592 dL_law_593 dL_law_594 rfl ?_
  refine j_Perm zP_in ?_
  refine lN_base hC mq ms ma sl vr (xs (6 * j + 1)) (xs (6 * j + 2)) y e2 [.long x.1] zk_X7_base ⟨rfl, rfl, by decide, by decide, Nat.le_trans (by omega) (show 601024 ≤ room_1.cells from Nat.le_refl _), Nat.le_trans (by omega) (show 7293034 ≤ room_1.slots from Nat.le_refl _)⟩ (Nat.le_of_ble_eq_true rfl) dL_law_595 rfl ?_
  refine j_Perm zP_out ?_
  refine j_cmpL (tgt := 1592) (p1 := 599) hC e3 dL_law_598 rfl dL_law_599 (by decide) ?_
  exact kn _ _ _ _ _ _ _ _ _ _ _ _ _ _ _ _ _ _ he (by omega) (by omega) H'
set_option maxHeartbeats 1000000 in
theorem cn_mask (h : zLaw C E b L o j k n xs) (he : e = 0) (H : zGN s a g ms ma rs) : J C k n (WX E q s a g vt vd ++ (IM E rs ss ca e ++ (WN E mq ms ma sl vr ++ zO E o f))) [(0, .ref b), (1, .ref (q 0)), (2, .ref (mq 0)), (3, .ref o), (4, .int (nI (6 * j)))] 604 [] := by
  obtain ⟨hC, hS, hj, hL, hk, hn, kc, kn⟩ := h
  obtain ⟨x, y, e1, e2, e3, H'⟩ := rn_mask H (xs (6 * j + 1)) (xs (6 * j + 2))
  refine j_aload_n (q := 605) hC dL_law_604 rfl rfl 1 rfl ?_
  refine j_arg (q := 611) (v := 1) hC hS rfl rfl (by decide) (by omega) hL dL_law_605 dL_law_606 dL_law_608 dL_law_609 dL_law_610 rfl ?_
  refine j_arg (q := 617) (v := 2) hC hS rfl rfl (by decide) (by omega) hL dL_law_611 dL_law_612 dL_law_614 dL_law_615 dL_law_616 rfl ?_
  refine lX_mask hC q s a g vt vd (xs (6 * j + 1)) (xs (6 * j + 2)) x e1 [] zk_X5_mask ⟨rfl, rfl, by decide, by decide, Nat.le_trans (by omega) (show 601024 ≤ room_1.cells from Nat.le_refl _), Nat.le_trans (by omega) (show 7293034 ≤ room_1.slots from Nat.le_refl _)⟩ (by decide) dL_law_617 rfl ?_
  refine j_aload_n (q := 621) hC dL_law_620 rfl rfl 2 rfl ?_
  refine j_arg (q := 627) (v := 1) hC hS rfl rfl (by decide) (by omega) hL dL_law_621 dL_law_622 dL_law_624 dL_law_625 dL_law_626 rfl ?_
  refine j_arg (q := 633) (v := 2) hC hS rfl rfl (by decide) (by omega) hL dL_law_627 dL_law_628 dL_law_630 dL_law_631 dL_law_632 rfl ?_
  refine j_Perm zP_in ?_
  refine lN_mask hC mq ms ma sl vr (xs (6 * j + 1)) (xs (6 * j + 2)) y e2 [.int x.1] zk_X7_mask ⟨rfl, rfl, by decide, by decide, Nat.le_trans (by omega) (show 601024 ≤ room_1.cells from Nat.le_refl _), Nat.le_trans (by omega) (show 7293034 ≤ room_1.slots from Nat.le_refl _)⟩ (Nat.le_of_ble_eq_true rfl) dL_law_633 rfl ?_
  refine j_Perm zP_out ?_
  refine j_cmp (tgt := 1592) hC e3 dL_law_636 (by decide) ?_
  exact kn _ _ _ _ _ _ _ _ _ _ _ _ _ _ _ _ _ _ he (by omega) (by omega) H'
set_option maxHeartbeats 1000000 in
theorem cn_difference (h : zLaw C E b L o j k n xs) (he : e = 0) (H : zGN s a g ms ma rs) : J C k n (WX E q s a g vt vd ++ (IM E rs ss ca e ++ (WN E mq ms ma sl vr ++ zO E o f))) [(0, .ref b), (1, .ref (q 0)), (2, .ref (mq 0)), (3, .ref o), (4, .int (nI (6 * j)))] 641 [] := by
  obtain ⟨hC, hS, hj, hL, hk, hn, kc, kn⟩ := h
  obtain ⟨x, y, e1, e2, e3, H'⟩ := rn_difference H (xs (6 * j + 1)) (xs (6 * j + 2)) (xs (6 * j + 3))
  refine j_aload_n (q := 642) hC dL_law_641 rfl rfl 1 rfl ?_
  refine j_arg (q := 648) (v := 1) hC hS rfl rfl (by decide) (by omega) hL dL_law_642 dL_law_643 dL_law_645 dL_law_646 dL_law_647 rfl ?_
  refine j_arg (q := 654) (v := 2) hC hS rfl rfl (by decide) (by omega) hL dL_law_648 dL_law_649 dL_law_651 dL_law_652 dL_law_653 rfl ?_
  refine j_arg (q := 660) (v := 3) hC hS rfl rfl (by decide) (by omega) hL dL_law_654 dL_law_655 dL_law_657 dL_law_658 dL_law_659 rfl ?_
  refine lX_difference hC q s a g vt vd (xs (6 * j + 1)) (xs (6 * j + 2)) (xs (6 * j + 3)) x e1 [] zk_X5_difference ⟨rfl, rfl, by decide, by decide, Nat.le_trans (by omega) (show 601024 ≤ room_1.cells from Nat.le_refl _), Nat.le_trans (by omega) (show 7293034 ≤ room_1.slots from Nat.le_refl _)⟩ (by decide) dL_law_660 rfl ?_
  refine j_aload_n (q := 664) hC dL_law_663 rfl rfl 2 rfl ?_
  refine j_arg (q := 670) (v := 1) hC hS rfl rfl (by decide) (by omega) hL dL_law_664 dL_law_665 dL_law_667 dL_law_668 dL_law_669 rfl ?_
  refine j_arg (q := 676) (v := 2) hC hS rfl rfl (by decide) (by omega) hL dL_law_670 dL_law_671 dL_law_673 dL_law_674 dL_law_675 rfl ?_
  refine j_arg (q := 682) (v := 3) hC hS rfl rfl (by decide) (by omega) hL dL_law_676 dL_law_677 dL_law_679 dL_law_680 dL_law_681 rfl ?_
  refine j_Perm zP_in ?_
  refine lN_difference hC mq ms ma sl vr (xs (6 * j + 1)) (xs (6 * j + 2)) (xs (6 * j + 3)) y e2 [.long x.1] zk_X7_difference ⟨rfl, rfl, by decide, by decide, Nat.le_trans (by omega) (show 601024 ≤ room_1.cells from Nat.le_refl _), Nat.le_trans (by omega) (show 7293034 ≤ room_1.slots from Nat.le_refl _)⟩ (Nat.le_of_ble_eq_true rfl) dL_law_682 rfl ?_
  refine j_Perm zP_out ?_
  refine j_cmpL (tgt := 1592) (p1 := 686) hC e3 dL_law_685 rfl dL_law_686 (by decide) ?_
  exact kn _ _ _ _ _ _ _ _ _ _ _ _ _ _ _ _ _ _ he (by omega) (by omega) H'
set_option maxHeartbeats 1000000 in
theorem cn_linesOf (h : zLaw C E b L o j k n xs) (he : e = 0) (H : zGN s a g ms ma rs) : J C k n (WX E q s a g vt vd ++ (IM E rs ss ca e ++ (WN E mq ms ma sl vr ++ zO E o f))) [(0, .ref b), (1, .ref (q 0)), (2, .ref (mq 0)), (3, .ref o), (4, .int (nI (6 * j)))] 691 [] := by
  obtain ⟨hC, hS, hj, hL, hk, hn, kc, kn⟩ := h
  obtain ⟨x, y, e1, e2, e3, H'⟩ := rn_linesOf H (xs (6 * j + 1))
  refine j_aload_n (q := 692) hC dL_law_691 rfl rfl 1 rfl ?_
  refine j_arg (q := 698) (v := 1) hC hS rfl rfl (by decide) (by omega) hL dL_law_692 dL_law_693 dL_law_695 dL_law_696 dL_law_697 rfl ?_
  refine lX_linesOf hC q s a g vt vd (xs (6 * j + 1)) x e1 [] zk_X5_linesOf ⟨rfl, rfl, by decide, by decide, Nat.le_trans (by omega) (show 601024 ≤ room_1.cells from Nat.le_refl _), Nat.le_trans (by omega) (show 7293034 ≤ room_1.slots from Nat.le_refl _)⟩ (by decide) dL_law_698 rfl ?_
  refine j_aload_n (q := 702) hC dL_law_701 rfl rfl 2 rfl ?_
  refine j_arg (q := 708) (v := 1) hC hS rfl rfl (by decide) (by omega) hL dL_law_702 dL_law_703 dL_law_705 dL_law_706 dL_law_707 rfl ?_
  refine j_Perm zP_in ?_
  refine lN_linesOf hC mq ms ma sl vr (xs (6 * j + 1)) y e2 [.int x.1] zk_X7_linesOf ⟨rfl, rfl, by decide, by decide, Nat.le_trans (by omega) (show 601024 ≤ room_1.cells from Nat.le_refl _), Nat.le_trans (by omega) (show 7293034 ≤ room_1.slots from Nat.le_refl _)⟩ (Nat.le_of_ble_eq_true rfl) dL_law_708 rfl ?_
  refine j_Perm zP_out ?_
  refine j_cmp (tgt := 1592) hC e3 dL_law_711 (by decide) ?_
  exact kn _ _ _ _ _ _ _ _ _ _ _ _ _ _ _ _ _ _ he (by omega) (by omega) H'
set_option maxHeartbeats 1000000 in
theorem cn_set (h : zLaw C E b L o j k n xs) (he : e = 0) (H : zGN s a g ms ma rs) : J C k n (WX E q s a g vt vd ++ (IM E rs ss ca e ++ (WN E mq ms ma sl vr ++ zO E o f))) [(0, .ref b), (1, .ref (q 0)), (2, .ref (mq 0)), (3, .ref o), (4, .int (nI (6 * j)))] 716 [] := by
  obtain ⟨hC, hS, hj, hL, hk, hn, kc, kn⟩ := h
  obtain ⟨x, y, e1, e2, e3, H'⟩ := rn_set H (xs (6 * j + 1)) (xs (6 * j + 2))
  refine j_aload_n (q := 717) hC dL_law_716 rfl rfl 1 rfl ?_
  refine j_arg (q := 723) (v := 1) hC hS rfl rfl (by decide) (by omega) hL dL_law_717 dL_law_718 dL_law_720 dL_law_721 dL_law_722 rfl ?_
  refine j_arg (q := 729) (v := 2) hC hS rfl rfl (by decide) (by omega) hL dL_law_723 dL_law_724 dL_law_726 dL_law_727 dL_law_728 rfl ?_
  refine lX_set hC q s a g vt vd (xs (6 * j + 1)) (xs (6 * j + 2)) x e1 [] zk_X5_set ⟨rfl, rfl, by decide, by decide, Nat.le_trans (by omega) (show 601024 ≤ room_1.cells from Nat.le_refl _), Nat.le_trans (by omega) (show 7293034 ≤ room_1.slots from Nat.le_refl _)⟩ (by decide) dL_law_729 rfl ?_
  refine j_aload_n (q := 733) hC dL_law_732 rfl rfl 2 rfl ?_
  refine j_arg (q := 739) (v := 1) hC hS rfl rfl (by decide) (by omega) hL dL_law_733 dL_law_734 dL_law_736 dL_law_737 dL_law_738 rfl ?_
  refine j_arg (q := 745) (v := 2) hC hS rfl rfl (by decide) (by omega) hL dL_law_739 dL_law_740 dL_law_742 dL_law_743 dL_law_744 rfl ?_
  refine j_Perm zP_in ?_
  refine lN_set hC mq ms ma sl vr (xs (6 * j + 1)) (xs (6 * j + 2)) y e2 [.int x.1] zk_X7_set ⟨rfl, rfl, by decide, by decide, Nat.le_trans (by omega) (show 601024 ≤ room_1.cells from Nat.le_refl _), Nat.le_trans (by omega) (show 7293034 ≤ room_1.slots from Nat.le_refl _)⟩ (Nat.le_of_ble_eq_true rfl) dL_law_745 rfl ?_
  refine j_Perm zP_out ?_
  refine j_cmp (tgt := 1592) hC e3 dL_law_748 (by decide) ?_
  exact kn _ _ _ _ _ _ _ _ _ _ _ _ _ _ _ _ _ _ he (by omega) (by omega) H'
set_option maxHeartbeats 1000000 in
theorem cn_tag (h : zLaw C E b L o j k n xs) (he : e = 0) (H : zGN s a g ms ma rs) : J C k n (WX E q s a g vt vd ++ (IM E rs ss ca e ++ (WN E mq ms ma sl vr ++ zO E o f))) [(0, .ref b), (1, .ref (q 0)), (2, .ref (mq 0)), (3, .ref o), (4, .int (nI (6 * j)))] 753 [] := by
  obtain ⟨hC, hS, hj, hL, hk, hn, kc, kn⟩ := h
  obtain ⟨x, y, e1, e2, e3, H'⟩ := rn_tag H (xs (6 * j + 1)) (xs (6 * j + 2))
  refine j_aload_n (q := 754) hC dL_law_753 rfl rfl 1 rfl ?_
  refine j_arg (q := 760) (v := 1) hC hS rfl rfl (by decide) (by omega) hL dL_law_754 dL_law_755 dL_law_757 dL_law_758 dL_law_759 rfl ?_
  refine j_arg (q := 766) (v := 2) hC hS rfl rfl (by decide) (by omega) hL dL_law_760 dL_law_761 dL_law_763 dL_law_764 dL_law_765 rfl ?_
  refine lX_tag hC q s a g vt vd (xs (6 * j + 1)) (xs (6 * j + 2)) x e1 [] zk_X5_tag ⟨rfl, rfl, by decide, by decide, Nat.le_trans (by omega) (show 601024 ≤ room_1.cells from Nat.le_refl _), Nat.le_trans (by omega) (show 7293034 ≤ room_1.slots from Nat.le_refl _)⟩ (by decide) dL_law_766 rfl ?_
  refine j_aload_n (q := 770) hC dL_law_769 rfl rfl 2 rfl ?_
  refine j_arg (q := 776) (v := 1) hC hS rfl rfl (by decide) (by omega) hL dL_law_770 dL_law_771 dL_law_773 dL_law_774 dL_law_775 rfl ?_
  refine j_arg (q := 782) (v := 2) hC hS rfl rfl (by decide) (by omega) hL dL_law_776 dL_law_777 dL_law_779 dL_law_780 dL_law_781 rfl ?_
  refine j_Perm zP_in ?_
  refine lN_tag hC mq ms ma sl vr (xs (6 * j + 1)) (xs (6 * j + 2)) y e2 [.int x.1] zk_X7_tag ⟨rfl, rfl, by decide, by decide, Nat.le_trans (by omega) (show 601024 ≤ room_1.cells from Nat.le_refl _), Nat.le_trans (by omega) (show 7293034 ≤ room_1.slots from Nat.le_refl _)⟩ (Nat.le_of_ble_eq_true rfl) dL_law_782 rfl ?_
  refine j_Perm zP_out ?_
  refine j_cmp (tgt := 1592) hC e3 dL_law_785 (by decide) ?_
  exact kn _ _ _ _ _ _ _ _ _ _ _ _ _ _ _ _ _ _ he (by omega) (by omega) H'
set_option maxHeartbeats 1000000 in
theorem cn_cached (h : zLaw C E b L o j k n xs) (he : e = 0) (H : zGN s a g ms ma rs) : J C k n (WX E q s a g vt vd ++ (IM E rs ss ca e ++ (WN E mq ms ma sl vr ++ zO E o f))) [(0, .ref b), (1, .ref (q 0)), (2, .ref (mq 0)), (3, .ref o), (4, .int (nI (6 * j)))] 790 [] := by
  obtain ⟨hC, hS, hj, hL, hk, hn, kc, kn⟩ := h
  obtain ⟨x, y, e1, e2, e3, H'⟩ := rn_cached H (xs (6 * j + 1)) (xs (6 * j + 2))
  refine j_aload_n (q := 791) hC dL_law_790 rfl rfl 1 rfl ?_
  refine j_arg (q := 797) (v := 1) hC hS rfl rfl (by decide) (by omega) hL dL_law_791 dL_law_792 dL_law_794 dL_law_795 dL_law_796 rfl ?_
  refine j_arg (q := 803) (v := 2) hC hS rfl rfl (by decide) (by omega) hL dL_law_797 dL_law_798 dL_law_800 dL_law_801 dL_law_802 rfl ?_
  refine lX_cached hC q s a g vt vd (xs (6 * j + 1)) (xs (6 * j + 2)) x e1 [] zk_X5_cached ⟨rfl, rfl, by decide, by decide, Nat.le_trans (by omega) (show 601024 ≤ room_1.cells from Nat.le_refl _), Nat.le_trans (by omega) (show 7293034 ≤ room_1.slots from Nat.le_refl _)⟩ (by decide) dL_law_803 rfl ?_
  refine j_aload_n (q := 807) hC dL_law_806 rfl rfl 2 rfl ?_
  refine j_arg (q := 813) (v := 1) hC hS rfl rfl (by decide) (by omega) hL dL_law_807 dL_law_808 dL_law_810 dL_law_811 dL_law_812 rfl ?_
  refine j_arg (q := 819) (v := 2) hC hS rfl rfl (by decide) (by omega) hL dL_law_813 dL_law_814 dL_law_816 dL_law_817 dL_law_818 rfl ?_
  refine j_Perm zP_in ?_
  refine lN_cached hC mq ms ma sl vr (xs (6 * j + 1)) (xs (6 * j + 2)) y e2 [.int x.1] zk_X7_cached ⟨rfl, rfl, by decide, by decide, Nat.le_trans (by omega) (show 601024 ≤ room_1.cells from Nat.le_refl _), Nat.le_trans (by omega) (show 7293034 ≤ room_1.slots from Nat.le_refl _)⟩ (Nat.le_of_ble_eq_true rfl) dL_law_819 rfl ?_
  refine j_Perm zP_out ?_
  refine j_cmp (tgt := 1592) hC e3 dL_law_822 (by decide) ?_
  exact kn _ _ _ _ _ _ _ _ _ _ _ _ _ _ _ _ _ _ he (by omega) (by omega) H'
set_option maxHeartbeats 1000000 in
theorem cn_isCached (h : zLaw C E b L o j k n xs) (he : e = 0) (H : zGN s a g ms ma rs) : J C k n (WX E q s a g vt vd ++ (IM E rs ss ca e ++ (WN E mq ms ma sl vr ++ zO E o f))) [(0, .ref b), (1, .ref (q 0)), (2, .ref (mq 0)), (3, .ref o), (4, .int (nI (6 * j)))] 827 [] := by
  obtain ⟨hC, hS, hj, hL, hk, hn, kc, kn⟩ := h
  obtain ⟨x, y, e1, e2, e3, H'⟩ := rn_isCached H (xs (6 * j + 1))
  refine j_aload_n (q := 828) hC dL_law_827 rfl rfl 1 rfl ?_
  refine j_arg (q := 834) (v := 1) hC hS rfl rfl (by decide) (by omega) hL dL_law_828 dL_law_829 dL_law_831 dL_law_832 dL_law_833 rfl ?_
  refine lX_isCached hC q s a g vt vd (xs (6 * j + 1)) x e1 [] zk_X5_isCached ⟨rfl, rfl, by decide, by decide, Nat.le_trans (by omega) (show 601024 ≤ room_1.cells from Nat.le_refl _), Nat.le_trans (by omega) (show 7293034 ≤ room_1.slots from Nat.le_refl _)⟩ (by decide) dL_law_834 rfl ?_
  refine j_aload_n (q := 838) hC dL_law_837 rfl rfl 2 rfl ?_
  refine j_arg (q := 844) (v := 1) hC hS rfl rfl (by decide) (by omega) hL dL_law_838 dL_law_839 dL_law_841 dL_law_842 dL_law_843 rfl ?_
  refine j_Perm zP_in ?_
  refine lN_isCached hC mq ms ma sl vr (xs (6 * j + 1)) y e2 [.int x.1] zk_X7_isCached ⟨rfl, rfl, by decide, by decide, Nat.le_trans (by omega) (show 601024 ≤ room_1.cells from Nat.le_refl _), Nat.le_trans (by omega) (show 7293034 ≤ room_1.slots from Nat.le_refl _)⟩ (Nat.le_of_ble_eq_true rfl) dL_law_844 rfl ?_
  refine j_Perm zP_out ?_
  refine j_cmp (tgt := 1592) hC e3 dL_law_847 (by decide) ?_
  exact kn _ _ _ _ _ _ _ _ _ _ _ _ _ _ _ _ _ _ he (by omega) (by omega) H'
set_option maxHeartbeats 1000000 in
theorem cn_victim (h : zLaw C E b L o j k n xs) (he : e = 0) (H : zGN s a g ms ma rs) : J C k n (WX E q s a g vt vd ++ (IM E rs ss ca e ++ (WN E mq ms ma sl vr ++ zO E o f))) [(0, .ref b), (1, .ref (q 0)), (2, .ref (mq 0)), (3, .ref o), (4, .int (nI (6 * j)))] 852 [] := by
  obtain ⟨hC, hS, hj, hL, hk, hn, kc, kn⟩ := h
  obtain ⟨x, y, e1, e2, e3, H'⟩ := rn_victim H (xs (6 * j + 1))
  refine j_aload_n (q := 853) hC dL_law_852 rfl rfl 1 rfl ?_
  refine j_arg (q := 859) (v := 1) hC hS rfl rfl (by decide) (by omega) hL dL_law_853 dL_law_854 dL_law_856 dL_law_857 dL_law_858 rfl ?_
  refine lX_victim hC q s a g vt vd (xs (6 * j + 1)) x e1 [] zk_X5_victim ⟨rfl, rfl, by decide, by decide, Nat.le_trans (by omega) (show 601024 ≤ room_1.cells from Nat.le_refl _), Nat.le_trans (by omega) (show 7293034 ≤ room_1.slots from Nat.le_refl _)⟩ (by decide) dL_law_859 rfl ?_
  refine j_aload_n (q := 863) hC dL_law_862 rfl rfl 2 rfl ?_
  refine j_arg (q := 869) (v := 1) hC hS rfl rfl (by decide) (by omega) hL dL_law_863 dL_law_864 dL_law_866 dL_law_867 dL_law_868 rfl ?_
  refine j_Perm zP_in ?_
  refine lN_victim hC mq ms ma sl vr (xs (6 * j + 1)) y e2 [.int x.1] zk_X7_victim ⟨rfl, rfl, by decide, by decide, Nat.le_trans (by omega) (show 601024 ≤ room_1.cells from Nat.le_refl _), Nat.le_trans (by omega) (show 7293034 ≤ room_1.slots from Nat.le_refl _)⟩ (Nat.le_of_ble_eq_true rfl) dL_law_869 rfl ?_
  refine j_Perm zP_out ?_
  refine j_cmp (tgt := 1592) hC e3 dL_law_872 (by decide) ?_
  exact kn _ _ _ _ _ _ _ _ _ _ _ _ _ _ _ _ _ _ he (by omega) (by omega) H'
set_option maxHeartbeats 1000000 in
theorem cn_makesRoom (h : zLaw C E b L o j k n xs) (he : e = 0) (H : zGN s a g ms ma rs) : J C k n (WX E q s a g vt vd ++ (IM E rs ss ca e ++ (WN E mq ms ma sl vr ++ zO E o f))) [(0, .ref b), (1, .ref (q 0)), (2, .ref (mq 0)), (3, .ref o), (4, .int (nI (6 * j)))] 877 [] := by
  obtain ⟨hC, hS, hj, hL, hk, hn, kc, kn⟩ := h
  obtain ⟨x, y, e1, e2, e3, H'⟩ := rn_makesRoom H (xs (6 * j + 1))
  refine j_aload_n (q := 878) hC dL_law_877 rfl rfl 1 rfl ?_
  refine j_arg (q := 884) (v := 1) hC hS rfl rfl (by decide) (by omega) hL dL_law_878 dL_law_879 dL_law_881 dL_law_882 dL_law_883 rfl ?_
  refine lX_makesRoom hC q s a g vt vd (xs (6 * j + 1)) x e1 [] zk_X5_makesRoom ⟨rfl, rfl, by decide, by decide, Nat.le_trans (by omega) (show 601024 ≤ room_1.cells from Nat.le_refl _), Nat.le_trans (by omega) (show 7293034 ≤ room_1.slots from Nat.le_refl _)⟩ (by decide) dL_law_884 rfl ?_
  refine j_aload_n (q := 888) hC dL_law_887 rfl rfl 2 rfl ?_
  refine j_arg (q := 894) (v := 1) hC hS rfl rfl (by decide) (by omega) hL dL_law_888 dL_law_889 dL_law_891 dL_law_892 dL_law_893 rfl ?_
  refine j_Perm zP_in ?_
  refine lN_makesRoom hC mq ms ma sl vr (xs (6 * j + 1)) y e2 [.int x.1] zk_X7_makesRoom ⟨rfl, rfl, by decide, by decide, Nat.le_trans (by omega) (show 601024 ≤ room_1.cells from Nat.le_refl _), Nat.le_trans (by omega) (show 7293034 ≤ room_1.slots from Nat.le_refl _)⟩ (Nat.le_of_ble_eq_true rfl) dL_law_894 rfl ?_
  refine j_Perm zP_out ?_
  refine j_cmp (tgt := 1592) hC e3 dL_law_897 (by decide) ?_
  exact kn _ _ _ _ _ _ _ _ _ _ _ _ _ _ _ _ _ _ he (by omega) (by omega) H'
set_option maxHeartbeats 1000000 in
theorem cn_growsOver (h : zLaw C E b L o j k n xs) (he : e = 0) (H : zGN s a g ms ma rs) : J C k n (WX E q s a g vt vd ++ (IM E rs ss ca e ++ (WN E mq ms ma sl vr ++ zO E o f))) [(0, .ref b), (1, .ref (q 0)), (2, .ref (mq 0)), (3, .ref o), (4, .int (nI (6 * j)))] 902 [] := by
  obtain ⟨hC, hS, hj, hL, hk, hn, kc, kn⟩ := h
  obtain ⟨x, y, e1, e2, e3, H'⟩ := rn_growsOver H (xs (6 * j + 1)) (xs (6 * j + 2)) (xs (6 * j + 3))
  refine j_aload_n (q := 903) hC dL_law_902 rfl rfl 1 rfl ?_
  refine j_arg (q := 909) (v := 1) hC hS rfl rfl (by decide) (by omega) hL dL_law_903 dL_law_904 dL_law_906 dL_law_907 dL_law_908 rfl ?_
  refine j_arg (q := 915) (v := 2) hC hS rfl rfl (by decide) (by omega) hL dL_law_909 dL_law_910 dL_law_912 dL_law_913 dL_law_914 rfl ?_
  refine j_arg (q := 921) (v := 3) hC hS rfl rfl (by decide) (by omega) hL dL_law_915 dL_law_916 dL_law_918 dL_law_919 dL_law_920 rfl ?_
  refine lX_growsOver hC q s a g vt vd (xs (6 * j + 1)) (xs (6 * j + 2)) (xs (6 * j + 3)) x e1 [] zk_X5_growsOver ⟨rfl, rfl, by decide, by decide, Nat.le_trans (by omega) (show 601024 ≤ room_1.cells from Nat.le_refl _), Nat.le_trans (by omega) (show 7293034 ≤ room_1.slots from Nat.le_refl _)⟩ (by decide) dL_law_921 rfl ?_
  refine j_aload_n (q := 925) hC dL_law_924 rfl rfl 2 rfl ?_
  refine j_arg (q := 931) (v := 1) hC hS rfl rfl (by decide) (by omega) hL dL_law_925 dL_law_926 dL_law_928 dL_law_929 dL_law_930 rfl ?_
  refine j_arg (q := 937) (v := 2) hC hS rfl rfl (by decide) (by omega) hL dL_law_931 dL_law_932 dL_law_934 dL_law_935 dL_law_936 rfl ?_
  refine j_arg (q := 943) (v := 3) hC hS rfl rfl (by decide) (by omega) hL dL_law_937 dL_law_938 dL_law_940 dL_law_941 dL_law_942 rfl ?_
  refine j_Perm zP_in ?_
  refine lN_growsOver hC mq ms ma sl vr (xs (6 * j + 1)) (xs (6 * j + 2)) (xs (6 * j + 3)) y e2 [.int x.1] zk_X7_growsOver ⟨rfl, rfl, by decide, by decide, Nat.le_trans (by omega) (show 601024 ≤ room_1.cells from Nat.le_refl _), Nat.le_trans (by omega) (show 7293034 ≤ room_1.slots from Nat.le_refl _)⟩ (Nat.le_of_ble_eq_true rfl) dL_law_943 rfl ?_
  refine j_Perm zP_out ?_
  refine j_cmp (tgt := 1592) hC e3 dL_law_946 (by decide) ?_
  exact kn _ _ _ _ _ _ _ _ _ _ _ _ _ _ _ _ _ _ he (by omega) (by omega) H'
set_option maxHeartbeats 1000000 in
theorem cn_ratio (h : zLaw C E b L o j k n xs) (he : e = 0) (H : zGN s a g ms ma rs) : J C k n (WX E q s a g vt vd ++ (IM E rs ss ca e ++ (WN E mq ms ma sl vr ++ zO E o f))) [(0, .ref b), (1, .ref (q 0)), (2, .ref (mq 0)), (3, .ref o), (4, .int (nI (6 * j)))] 951 [] := by
  obtain ⟨hC, hS, hj, hL, hk, hn, kc, kn⟩ := h
  by_cases hz : xs (6 * j + 1) = 0
  · obtain ⟨x, y, e1, e2, e3, H'⟩ := rn_ratio H 0
    refine j_aload_n (q := 952) hC dL_law_951 rfl rfl 1 rfl ?_
    refine j_arg (q := 958) (v := 1) hC hS rfl rfl (by decide) (by omega) hL dL_law_952 dL_law_953 dL_law_955 dL_law_956 dL_law_957 rfl ?_
    refine j_eqT (tgt := 965) hC hz dL_law_958 (by decide) ?_
    refine j_iconst (q := 966) (v := 0) hC dL_law_965 rfl (by decide) ?_
    refine lX_ratio hC q s a g vt vd (0) x e1 [] zk_X5_ratio ⟨rfl, rfl, by decide, by decide, Nat.le_trans (by omega) (show 601024 ≤ room_1.cells from Nat.le_refl _), Nat.le_trans (by omega) (show 7293034 ≤ room_1.slots from Nat.le_refl _)⟩ (by decide) dL_law_966 rfl ?_
    refine j_aload_n (q := 970) hC dL_law_969 rfl rfl 2 rfl ?_
    refine j_arg (q := 976) (v := 1) hC hS rfl rfl (by decide) (by omega) hL dL_law_970 dL_law_971 dL_law_973 dL_law_974 dL_law_975 rfl ?_
    refine j_eqT (tgt := 983) hC hz dL_law_976 (by decide) ?_
    refine j_iconst (q := 984) (v := 0) hC dL_law_983 rfl (by decide) ?_
    refine j_Perm zP_in ?_
    refine lN_ratio hC mq ms ma sl vr (0) y e2 [.long x.1] zk_X7_ratio ⟨rfl, rfl, by decide, by decide, Nat.le_trans (by omega) (show 601024 ≤ room_1.cells from Nat.le_refl _), Nat.le_trans (by omega) (show 7293034 ≤ room_1.slots from Nat.le_refl _)⟩ (Nat.le_of_ble_eq_true rfl) dL_law_984 rfl ?_
    refine j_Perm zP_out ?_
    refine j_cmpL (tgt := 1592) (p1 := 988) hC e3 dL_law_987 rfl dL_law_988 (by decide) ?_
    exact kn _ _ _ _ _ _ _ _ _ _ _ _ _ _ _ _ _ _ he (by omega) (by omega) H'
  · obtain ⟨x, y, e1, e2, e3, H'⟩ := rn_ratio H 1
    refine j_aload_n (q := 952) hC dL_law_951 rfl rfl 1 rfl ?_
    refine j_arg (q := 958) (v := 1) hC hS rfl rfl (by decide) (by omega) hL dL_law_952 dL_law_953 dL_law_955 dL_law_956 dL_law_957 rfl ?_
    refine j_eqF (tgt := 965) (q := 961) hC hz dL_law_958 (by decide) rfl ?_
    refine j_iconst (q := 962) (v := 1) hC dL_law_961 rfl (by decide) ?_
    refine j_goto (tgt := 966) hC dL_law_962 (by decide) ?_
    refine lX_ratio hC q s a g vt vd (1) x e1 [] zk_X5_ratio ⟨rfl, rfl, by decide, by decide, Nat.le_trans (by omega) (show 601024 ≤ room_1.cells from Nat.le_refl _), Nat.le_trans (by omega) (show 7293034 ≤ room_1.slots from Nat.le_refl _)⟩ (by decide) dL_law_966 rfl ?_
    refine j_aload_n (q := 970) hC dL_law_969 rfl rfl 2 rfl ?_
    refine j_arg (q := 976) (v := 1) hC hS rfl rfl (by decide) (by omega) hL dL_law_970 dL_law_971 dL_law_973 dL_law_974 dL_law_975 rfl ?_
    refine j_eqF (tgt := 983) (q := 979) hC hz dL_law_976 (by decide) rfl ?_
    refine j_iconst (q := 980) (v := 1) hC dL_law_979 rfl (by decide) ?_
    refine j_goto (tgt := 984) hC dL_law_980 (by decide) ?_
    refine j_Perm zP_in ?_
    refine lN_ratio hC mq ms ma sl vr (1) y e2 [.long x.1] zk_X7_ratio ⟨rfl, rfl, by decide, by decide, Nat.le_trans (by omega) (show 601024 ≤ room_1.cells from Nat.le_refl _), Nat.le_trans (by omega) (show 7293034 ≤ room_1.slots from Nat.le_refl _)⟩ (Nat.le_of_ble_eq_true rfl) dL_law_984 rfl ?_
    refine j_Perm zP_out ?_
    refine j_cmpL (tgt := 1592) (p1 := 988) hC e3 dL_law_987 rfl dL_law_988 (by decide) ?_
    exact kn _ _ _ _ _ _ _ _ _ _ _ _ _ _ _ _ _ _ he (by omega) (by omega) H'
set_option maxHeartbeats 1000000 in
theorem cn_lines (h : zLaw C E b L o j k n xs) (he : e = 0) (H : zGN s a g ms ma rs) : J C k n (WX E q s a g vt vd ++ (IM E rs ss ca e ++ (WN E mq ms ma sl vr ++ zO E o f))) [(0, .ref b), (1, .ref (q 0)), (2, .ref (mq 0)), (3, .ref o), (4, .int (nI (6 * j)))] 993 [] := by
  obtain ⟨hC, hS, hj, hL, hk, hn, kc, kn⟩ := h
  obtain ⟨x, y, e1, e2, e3, H'⟩ := rn_lines H 
  refine j_aload_n (q := 994) hC dL_law_993 rfl rfl 1 rfl ?_
  refine lX_lines hC q s a g vt vd  x e1 [] zk_X5_lines ⟨rfl, rfl, by decide, by decide, Nat.le_trans (by omega) (show 601024 ≤ room_1.cells from Nat.le_refl _), Nat.le_trans (by omega) (show 7293034 ≤ room_1.slots from Nat.le_refl _)⟩ (by decide) dL_law_994 rfl ?_
  refine j_aload_n (q := 998) hC dL_law_997 rfl rfl 2 rfl ?_
  refine j_Perm zP_in ?_
  refine lN_lines hC mq ms ma sl vr  y e2 [.int x.1] zk_X7_lines ⟨rfl, rfl, by decide, by decide, Nat.le_trans (by omega) (show 601024 ≤ room_1.cells from Nat.le_refl _), Nat.le_trans (by omega) (show 7293034 ≤ room_1.slots from Nat.le_refl _)⟩ (Nat.le_of_ble_eq_true rfl) dL_law_998 rfl ?_
  refine j_Perm zP_out ?_
  refine j_cmp (tgt := 1592) hC e3 dL_law_1001 (by decide) ?_
  exact kn _ _ _ _ _ _ _ _ _ _ _ _ _ _ _ _ _ _ he (by omega) (by omega) H'
set_option maxHeartbeats 1000000 in
theorem cn_runHits (h : zLaw C E b L o j k n xs) (he : e = 0) (H : zGN s a g ms ma rs) : J C k n (WX E q s a g vt vd ++ (IM E rs ss ca e ++ (WN E mq ms ma sl vr ++ zO E o f))) [(0, .ref b), (1, .ref (q 0)), (2, .ref (mq 0)), (3, .ref o), (4, .int (nI (6 * j)))] 1006 [] := by
  obtain ⟨hC, hS, hj, hL, hk, hn, kc, kn⟩ := h
  obtain ⟨x, y, e1, e2, e3, H'⟩ := rn_runHits H 
  refine j_aload_n (q := 1007) hC dL_law_1006 rfl rfl 1 rfl ?_
  refine lX_runHits hC q s a g vt vd  x e1 [] zk_X5_runHits ⟨rfl, rfl, by decide, by decide, Nat.le_trans (by omega) (show 601024 ≤ room_1.cells from Nat.le_refl _), Nat.le_trans (by omega) (show 7293034 ≤ room_1.slots from Nat.le_refl _)⟩ (by decide) dL_law_1007 rfl ?_
  refine j_aload_n (q := 1011) hC dL_law_1010 rfl rfl 2 rfl ?_
  refine j_Perm zP_in ?_
  refine lN_runHits hC mq ms ma sl vr  y e2 [.int x.1] zk_X7_runHits ⟨rfl, rfl, by decide, by decide, Nat.le_trans (by omega) (show 601024 ≤ room_1.cells from Nat.le_refl _), Nat.le_trans (by omega) (show 7293034 ≤ room_1.slots from Nat.le_refl _)⟩ (Nat.le_of_ble_eq_true rfl) dL_law_1011 rfl ?_
  refine j_Perm zP_out ?_
  refine j_cmp (tgt := 1592) hC e3 dL_law_1014 (by decide) ?_
  exact kn _ _ _ _ _ _ _ _ _ _ _ _ _ _ _ _ _ _ he (by omega) (by omega) H'
set_option maxHeartbeats 1000000 in
theorem cn_runVictims (h : zLaw C E b L o j k n xs) (he : e = 0) (H : zGN s a g ms ma rs) : J C k n (WX E q s a g vt vd ++ (IM E rs ss ca e ++ (WN E mq ms ma sl vr ++ zO E o f))) [(0, .ref b), (1, .ref (q 0)), (2, .ref (mq 0)), (3, .ref o), (4, .int (nI (6 * j)))] 1019 [] := by
  obtain ⟨hC, hS, hj, hL, hk, hn, kc, kn⟩ := h
  obtain ⟨x, y, e1, e2, e3, H'⟩ := rn_runVictims H 
  refine j_aload_n (q := 1020) hC dL_law_1019 rfl rfl 1 rfl ?_
  refine lX_runVictims hC q s a g vt vd  x e1 [] zk_X5_runVictims ⟨rfl, rfl, by decide, by decide, Nat.le_trans (by omega) (show 601024 ≤ room_1.cells from Nat.le_refl _), Nat.le_trans (by omega) (show 7293034 ≤ room_1.slots from Nat.le_refl _)⟩ (by decide) dL_law_1020 rfl ?_
  refine j_aload_n (q := 1024) hC dL_law_1023 rfl rfl 2 rfl ?_
  refine j_Perm zP_in ?_
  refine lN_runVictims hC mq ms ma sl vr  y e2 [.int x.1] zk_X7_runVictims ⟨rfl, rfl, by decide, by decide, Nat.le_trans (by omega) (show 601024 ≤ room_1.cells from Nat.le_refl _), Nat.le_trans (by omega) (show 7293034 ≤ room_1.slots from Nat.le_refl _)⟩ (Nat.le_of_ble_eq_true rfl) dL_law_1024 rfl ?_
  refine j_Perm zP_out ?_
  refine j_cmp (tgt := 1592) hC e3 dL_law_1027 (by decide) ?_
  exact kn _ _ _ _ _ _ _ _ _ _ _ _ _ _ _ _ _ _ he (by omega) (by omega) H'
set_option maxHeartbeats 1000000 in
theorem cn_runBacks (h : zLaw C E b L o j k n xs) (he : e = 0) (H : zGN s a g ms ma rs) : J C k n (WX E q s a g vt vd ++ (IM E rs ss ca e ++ (WN E mq ms ma sl vr ++ zO E o f))) [(0, .ref b), (1, .ref (q 0)), (2, .ref (mq 0)), (3, .ref o), (4, .int (nI (6 * j)))] 1032 [] := by
  obtain ⟨hC, hS, hj, hL, hk, hn, kc, kn⟩ := h
  obtain ⟨x, y, e1, e2, e3, H'⟩ := rn_runBacks H 
  refine j_aload_n (q := 1033) hC dL_law_1032 rfl rfl 1 rfl ?_
  refine lX_runBacks hC q s a g vt vd  x e1 [] zk_X5_runBacks ⟨rfl, rfl, by decide, by decide, Nat.le_trans (by omega) (show 601024 ≤ room_1.cells from Nat.le_refl _), Nat.le_trans (by omega) (show 7293034 ≤ room_1.slots from Nat.le_refl _)⟩ (by decide) dL_law_1033 rfl ?_
  refine j_aload_n (q := 1037) hC dL_law_1036 rfl rfl 2 rfl ?_
  refine j_Perm zP_in ?_
  refine lN_runBacks hC mq ms ma sl vr  y e2 [.int x.1] zk_X7_runBacks ⟨rfl, rfl, by decide, by decide, Nat.le_trans (by omega) (show 601024 ≤ room_1.cells from Nat.le_refl _), Nat.le_trans (by omega) (show 7293034 ≤ room_1.slots from Nat.le_refl _)⟩ (Nat.le_of_ble_eq_true rfl) dL_law_1037 rfl ?_
  refine j_Perm zP_out ?_
  refine j_cmp (tgt := 1592) hC e3 dL_law_1040 (by decide) ?_
  exact kn _ _ _ _ _ _ _ _ _ _ _ _ _ _ _ _ _ _ he (by omega) (by omega) H'
set_option maxHeartbeats 1000000 in
theorem cn_runStep (h : zLaw C E b L o j k n xs) (he : e = 0) (H : zGN s a g ms ma rs) : J C k n (WX E q s a g vt vd ++ (IM E rs ss ca e ++ (WN E mq ms ma sl vr ++ zO E o f))) [(0, .ref b), (1, .ref (q 0)), (2, .ref (mq 0)), (3, .ref o), (4, .int (nI (6 * j)))] 1045 [] := by
  obtain ⟨hC, hS, hj, hL, hk, hn, kc, kn⟩ := h
  obtain ⟨x, y, e1, e2, e3, H'⟩ := rn_runStep H (xs (6 * j + 1))
  refine j_aload_n (q := 1046) hC dL_law_1045 rfl rfl 1 rfl ?_
  refine j_arg (q := 1052) (v := 1) hC hS rfl rfl (by decide) (by omega) hL dL_law_1046 dL_law_1047 dL_law_1049 dL_law_1050 dL_law_1051 rfl ?_
  refine lX_runStep hC q s a g vt vd (xs (6 * j + 1)) x e1 [] zk_X5_runStep ⟨rfl, rfl, by decide, by decide, Nat.le_trans (by omega) (show 601024 ≤ room_1.cells from Nat.le_refl _), Nat.le_trans (by omega) (show 7293034 ≤ room_1.slots from Nat.le_refl _)⟩ (by decide) dL_law_1052 rfl ?_
  refine j_aload_n (q := 1056) hC dL_law_1055 rfl rfl 2 rfl ?_
  refine j_arg (q := 1062) (v := 1) hC hS rfl rfl (by decide) (by omega) hL dL_law_1056 dL_law_1057 dL_law_1059 dL_law_1060 dL_law_1061 rfl ?_
  refine j_Perm zP_in ?_
  refine lN_runStep hC mq ms ma sl vr (xs (6 * j + 1)) y e2 [.int x.1] zk_X7_runStep ⟨rfl, rfl, by decide, by decide, Nat.le_trans (by omega) (show 601024 ≤ room_1.cells from Nat.le_refl _), Nat.le_trans (by omega) (show 7293034 ≤ room_1.slots from Nat.le_refl _)⟩ (Nat.le_of_ble_eq_true rfl) dL_law_1062 rfl ?_
  refine j_Perm zP_out ?_
  refine j_cmp (tgt := 1592) hC e3 dL_law_1065 (by decide) ?_
  exact kn _ _ _ _ _ _ _ _ _ _ _ _ _ _ _ _ _ _ he (by omega) (by omega) H'
set_option maxHeartbeats 1000000 in
theorem cn_plainHits (h : zLaw C E b L o j k n xs) (he : e = 0) (H : zGN s a g ms ma rs) : J C k n (WX E q s a g vt vd ++ (IM E rs ss ca e ++ (WN E mq ms ma sl vr ++ zO E o f))) [(0, .ref b), (1, .ref (q 0)), (2, .ref (mq 0)), (3, .ref o), (4, .int (nI (6 * j)))] 1070 [] := by
  obtain ⟨hC, hS, hj, hL, hk, hn, kc, kn⟩ := h
  obtain ⟨x, y, e1, e2, e3, H'⟩ := rn_plainHits H 
  refine j_aload_n (q := 1071) hC dL_law_1070 rfl rfl 1 rfl ?_
  refine lX_plainHits hC q s a g vt vd  x e1 [] zk_X5_plainHits ⟨rfl, rfl, by decide, by decide, Nat.le_trans (by omega) (show 601024 ≤ room_1.cells from Nat.le_refl _), Nat.le_trans (by omega) (show 7293034 ≤ room_1.slots from Nat.le_refl _)⟩ (by decide) dL_law_1071 rfl ?_
  refine j_aload_n (q := 1075) hC dL_law_1074 rfl rfl 2 rfl ?_
  refine j_Perm zP_in ?_
  refine lN_plainHits hC mq ms ma sl vr  y e2 [.int x.1] zk_X7_plainHits ⟨rfl, rfl, by decide, by decide, Nat.le_trans (by omega) (show 601024 ≤ room_1.cells from Nat.le_refl _), Nat.le_trans (by omega) (show 7293034 ≤ room_1.slots from Nat.le_refl _)⟩ (Nat.le_of_ble_eq_true rfl) dL_law_1075 rfl ?_
  refine j_Perm zP_out ?_
  refine j_cmp (tgt := 1592) hC e3 dL_law_1078 (by decide) ?_
  exact kn _ _ _ _ _ _ _ _ _ _ _ _ _ _ _ _ _ _ he (by omega) (by omega) H'
set_option maxHeartbeats 1000000 in
theorem cn_plainBacks (h : zLaw C E b L o j k n xs) (he : e = 0) (H : zGN s a g ms ma rs) : J C k n (WX E q s a g vt vd ++ (IM E rs ss ca e ++ (WN E mq ms ma sl vr ++ zO E o f))) [(0, .ref b), (1, .ref (q 0)), (2, .ref (mq 0)), (3, .ref o), (4, .int (nI (6 * j)))] 1083 [] := by
  obtain ⟨hC, hS, hj, hL, hk, hn, kc, kn⟩ := h
  obtain ⟨x, y, e1, e2, e3, H'⟩ := rn_plainBacks H 
  refine j_aload_n (q := 1084) hC dL_law_1083 rfl rfl 1 rfl ?_
  refine lX_plainBacks hC q s a g vt vd  x e1 [] zk_X5_plainBacks ⟨rfl, rfl, by decide, by decide, Nat.le_trans (by omega) (show 601024 ≤ room_1.cells from Nat.le_refl _), Nat.le_trans (by omega) (show 7293034 ≤ room_1.slots from Nat.le_refl _)⟩ (by decide) dL_law_1084 rfl ?_
  refine j_aload_n (q := 1088) hC dL_law_1087 rfl rfl 2 rfl ?_
  refine j_Perm zP_in ?_
  refine lN_plainBacks hC mq ms ma sl vr  y e2 [.int x.1] zk_X7_plainBacks ⟨rfl, rfl, by decide, by decide, Nat.le_trans (by omega) (show 601024 ≤ room_1.cells from Nat.le_refl _), Nat.le_trans (by omega) (show 7293034 ≤ room_1.slots from Nat.le_refl _)⟩ (Nat.le_of_ble_eq_true rfl) dL_law_1088 rfl ?_
  refine j_Perm zP_out ?_
  refine j_cmp (tgt := 1592) hC e3 dL_law_1091 (by decide) ?_
  exact kn _ _ _ _ _ _ _ _ _ _ _ _ _ _ _ _ _ _ he (by omega) (by omega) H'
set_option maxHeartbeats 1000000 in
theorem cn_hitsBy (h : zLaw C E b L o j k n xs) (he : e = 0) (H : zGN s a g ms ma rs) : J C k n (WX E q s a g vt vd ++ (IM E rs ss ca e ++ (WN E mq ms ma sl vr ++ zO E o f))) [(0, .ref b), (1, .ref (q 0)), (2, .ref (mq 0)), (3, .ref o), (4, .int (nI (6 * j)))] 1096 [] := by
  obtain ⟨hC, hS, hj, hL, hk, hn, kc, kn⟩ := h
  obtain ⟨x, y, e1, e2, e3, H'⟩ := rn_hitsBy H (xs (6 * j + 1))
  refine j_aload_n (q := 1097) hC dL_law_1096 rfl rfl 1 rfl ?_
  refine j_arg (q := 1103) (v := 1) hC hS rfl rfl (by decide) (by omega) hL dL_law_1097 dL_law_1098 dL_law_1100 dL_law_1101 dL_law_1102 rfl ?_
  refine lX_hitsBy hC q s a g vt vd (xs (6 * j + 1)) x e1 [] zk_X5_hitsBy ⟨rfl, rfl, by decide, by decide, Nat.le_trans (by omega) (show 601024 ≤ room_1.cells from Nat.le_refl _), Nat.le_trans (by omega) (show 7293034 ≤ room_1.slots from Nat.le_refl _)⟩ (by decide) dL_law_1103 rfl ?_
  refine j_aload_n (q := 1107) hC dL_law_1106 rfl rfl 2 rfl ?_
  refine j_arg (q := 1113) (v := 1) hC hS rfl rfl (by decide) (by omega) hL dL_law_1107 dL_law_1108 dL_law_1110 dL_law_1111 dL_law_1112 rfl ?_
  refine j_Perm zP_in ?_
  refine lN_hitsBy hC mq ms ma sl vr (xs (6 * j + 1)) y e2 [.int x.1] zk_X7_hitsBy ⟨rfl, rfl, by decide, by decide, Nat.le_trans (by omega) (show 601024 ≤ room_1.cells from Nat.le_refl _), Nat.le_trans (by omega) (show 7293034 ≤ room_1.slots from Nat.le_refl _)⟩ (Nat.le_of_ble_eq_true rfl) dL_law_1113 rfl ?_
  refine j_Perm zP_out ?_
  refine j_cmp (tgt := 1592) hC e3 dL_law_1116 (by decide) ?_
  exact kn _ _ _ _ _ _ _ _ _ _ _ _ _ _ _ _ _ _ he (by omega) (by omega) H'
set_option maxHeartbeats 1000000 in
theorem cn_waysFor (h : zLaw C E b L o j k n xs) (he : e = 0) (H : zGN s a g ms ma rs) : J C k n (WX E q s a g vt vd ++ (IM E rs ss ca e ++ (WN E mq ms ma sl vr ++ zO E o f))) [(0, .ref b), (1, .ref (q 0)), (2, .ref (mq 0)), (3, .ref o), (4, .int (nI (6 * j)))] 1121 [] := by
  obtain ⟨hC, hS, hj, hL, hk, hn, kc, kn⟩ := h
  obtain ⟨x, y, e1, e2, e3, H'⟩ := rn_waysFor H (xs (6 * j + 1))
  refine j_aload_n (q := 1122) hC dL_law_1121 rfl rfl 1 rfl ?_
  refine j_arg (q := 1128) (v := 1) hC hS rfl rfl (by decide) (by omega) hL dL_law_1122 dL_law_1123 dL_law_1125 dL_law_1126 dL_law_1127 rfl ?_
  refine lX_waysFor hC q s a g vt vd (xs (6 * j + 1)) x e1 [] zk_X5_waysFor ⟨rfl, rfl, by decide, by decide, Nat.le_trans (by omega) (show 601024 ≤ room_1.cells from Nat.le_refl _), Nat.le_trans (by omega) (show 7293034 ≤ room_1.slots from Nat.le_refl _)⟩ (by decide) dL_law_1128 rfl ?_
  refine j_aload_n (q := 1132) hC dL_law_1131 rfl rfl 2 rfl ?_
  refine j_arg (q := 1138) (v := 1) hC hS rfl rfl (by decide) (by omega) hL dL_law_1132 dL_law_1133 dL_law_1135 dL_law_1136 dL_law_1137 rfl ?_
  refine j_Perm zP_in ?_
  refine lN_waysFor hC mq ms ma sl vr (xs (6 * j + 1)) y e2 [.int x.1] zk_X7_waysFor ⟨rfl, rfl, by decide, by decide, Nat.le_trans (by omega) (show 601024 ≤ room_1.cells from Nat.le_refl _), Nat.le_trans (by omega) (show 7293034 ≤ room_1.slots from Nat.le_refl _)⟩ (Nat.le_of_ble_eq_true rfl) dL_law_1138 rfl ?_
  refine j_Perm zP_out ?_
  refine j_cmp (tgt := 1592) hC e3 dL_law_1141 (by decide) ?_
  exact kn _ _ _ _ _ _ _ _ _ _ _ _ _ _ _ _ _ _ he (by omega) (by omega) H'
set_option maxHeartbeats 1000000 in
theorem cn_fits (h : zLaw C E b L o j k n xs) (he : e = 0) (H : zGN s a g ms ma rs) : J C k n (WX E q s a g vt vd ++ (IM E rs ss ca e ++ (WN E mq ms ma sl vr ++ zO E o f))) [(0, .ref b), (1, .ref (q 0)), (2, .ref (mq 0)), (3, .ref o), (4, .int (nI (6 * j)))] 1146 [] := by
  obtain ⟨hC, hS, hj, hL, hk, hn, kc, kn⟩ := h
  obtain ⟨x, y, e1, e2, e3, H'⟩ := rn_fits H 
  refine j_aload_n (q := 1147) hC dL_law_1146 rfl rfl 1 rfl ?_
  refine lX_fits hC q s a g vt vd  x e1 [] zk_X5_fits ⟨rfl, rfl, by decide, by decide, Nat.le_trans (by omega) (show 601024 ≤ room_1.cells from Nat.le_refl _), Nat.le_trans (by omega) (show 7293034 ≤ room_1.slots from Nat.le_refl _)⟩ (by decide) dL_law_1147 rfl ?_
  refine j_aload_n (q := 1151) hC dL_law_1150 rfl rfl 2 rfl ?_
  refine j_Perm zP_in ?_
  refine lN_fits hC mq ms ma sl vr  y e2 [.int x.1] zk_X7_fits ⟨rfl, rfl, by decide, by decide, Nat.le_trans (by omega) (show 601024 ≤ room_1.cells from Nat.le_refl _), Nat.le_trans (by omega) (show 7293034 ≤ room_1.slots from Nat.le_refl _)⟩ (Nat.le_of_ble_eq_true rfl) dL_law_1151 rfl ?_
  refine j_Perm zP_out ?_
  refine j_cmp (tgt := 1592) hC e3 dL_law_1154 (by decide) ?_
  exact kn _ _ _ _ _ _ _ _ _ _ _ _ _ _ _ _ _ _ he (by omega) (by omega) H'
set_option maxHeartbeats 1000000 in
theorem cn_fitAt (h : zLaw C E b L o j k n xs) (he : e = 0) (H : zGN s a g ms ma rs) : J C k n (WX E q s a g vt vd ++ (IM E rs ss ca e ++ (WN E mq ms ma sl vr ++ zO E o f))) [(0, .ref b), (1, .ref (q 0)), (2, .ref (mq 0)), (3, .ref o), (4, .int (nI (6 * j)))] 1159 [] := by
  obtain ⟨hC, hS, hj, hL, hk, hn, kc, kn⟩ := h
  obtain ⟨x, y, e1, e2, e3, H'⟩ := rn_fitAt H (xs (6 * j + 1))
  refine j_aload_n (q := 1160) hC dL_law_1159 rfl rfl 1 rfl ?_
  refine j_arg (q := 1166) (v := 1) hC hS rfl rfl (by decide) (by omega) hL dL_law_1160 dL_law_1161 dL_law_1163 dL_law_1164 dL_law_1165 rfl ?_
  refine lX_fitAt hC q s a g vt vd (xs (6 * j + 1)) x e1 [] zk_X5_fitAt ⟨rfl, rfl, by decide, by decide, Nat.le_trans (by omega) (show 601024 ≤ room_1.cells from Nat.le_refl _), Nat.le_trans (by omega) (show 7293034 ≤ room_1.slots from Nat.le_refl _)⟩ (by decide) dL_law_1166 rfl ?_
  refine j_aload_n (q := 1170) hC dL_law_1169 rfl rfl 2 rfl ?_
  refine j_arg (q := 1176) (v := 1) hC hS rfl rfl (by decide) (by omega) hL dL_law_1170 dL_law_1171 dL_law_1173 dL_law_1174 dL_law_1175 rfl ?_
  refine j_Perm zP_in ?_
  refine lN_fitAt hC mq ms ma sl vr (xs (6 * j + 1)) y e2 [.int x.1] zk_X7_fitAt ⟨rfl, rfl, by decide, by decide, Nat.le_trans (by omega) (show 601024 ≤ room_1.cells from Nat.le_refl _), Nat.le_trans (by omega) (show 7293034 ≤ room_1.slots from Nat.le_refl _)⟩ (Nat.le_of_ble_eq_true rfl) dL_law_1176 rfl ?_
  refine j_Perm zP_out ?_
  refine j_cmp (tgt := 1592) hC e3 dL_law_1179 (by decide) ?_
  exact kn _ _ _ _ _ _ _ _ _ _ _ _ _ _ _ _ _ _ he (by omega) (by omega) H'
set_option maxHeartbeats 1000000 in
theorem cn_could (h : zLaw C E b L o j k n xs) (he : e = 0) (H : zGN s a g ms ma rs) : J C k n (WX E q s a g vt vd ++ (IM E rs ss ca e ++ (WN E mq ms ma sl vr ++ zO E o f))) [(0, .ref b), (1, .ref (q 0)), (2, .ref (mq 0)), (3, .ref o), (4, .int (nI (6 * j)))] 1184 [] := by
  obtain ⟨hC, hS, hj, hL, hk, hn, kc, kn⟩ := h
  obtain ⟨x, y, e1, e2, e3, H'⟩ := rn_could H 
  refine j_aload_n (q := 1185) hC dL_law_1184 rfl rfl 1 rfl ?_
  refine lX_could hC q s a g vt vd  x e1 [] zk_X5_could ⟨rfl, rfl, by decide, by decide, Nat.le_trans (by omega) (show 601024 ≤ room_1.cells from Nat.le_refl _), Nat.le_trans (by omega) (show 7293034 ≤ room_1.slots from Nat.le_refl _)⟩ (by decide) dL_law_1185 rfl ?_
  refine j_aload_n (q := 1189) hC dL_law_1188 rfl rfl 2 rfl ?_
  refine j_Perm zP_in ?_
  refine lN_could hC mq ms ma sl vr  y e2 [.int x.1] zk_X7_could ⟨rfl, rfl, by decide, by decide, Nat.le_trans (by omega) (show 601024 ≤ room_1.cells from Nat.le_refl _), Nat.le_trans (by omega) (show 7293034 ≤ room_1.slots from Nat.le_refl _)⟩ (Nat.le_of_ble_eq_true rfl) dL_law_1189 rfl ?_
  refine j_Perm zP_out ?_
  refine j_cmp (tgt := 1592) hC e3 dL_law_1192 (by decide) ?_
  exact kn _ _ _ _ _ _ _ _ _ _ _ _ _ _ _ _ _ _ he (by omega) (by omega) H'
set_option maxHeartbeats 1000000 in
theorem cn_surely (h : zLaw C E b L o j k n xs) (he : e = 0) (H : zGN s a g ms ma rs) : J C k n (WX E q s a g vt vd ++ (IM E rs ss ca e ++ (WN E mq ms ma sl vr ++ zO E o f))) [(0, .ref b), (1, .ref (q 0)), (2, .ref (mq 0)), (3, .ref o), (4, .int (nI (6 * j)))] 1197 [] := by
  obtain ⟨hC, hS, hj, hL, hk, hn, kc, kn⟩ := h
  obtain ⟨x, y, e1, e2, e3, H'⟩ := rn_surely H 
  refine j_aload_n (q := 1198) hC dL_law_1197 rfl rfl 1 rfl ?_
  refine lX_surely hC q s a g vt vd  x e1 [] zk_X5_surely ⟨rfl, rfl, by decide, by decide, Nat.le_trans (by omega) (show 601024 ≤ room_1.cells from Nat.le_refl _), Nat.le_trans (by omega) (show 7293034 ≤ room_1.slots from Nat.le_refl _)⟩ (by decide) dL_law_1198 rfl ?_
  refine j_aload_n (q := 1202) hC dL_law_1201 rfl rfl 2 rfl ?_
  refine j_Perm zP_in ?_
  refine lN_surely hC mq ms ma sl vr  y e2 [.int x.1] zk_X7_surely ⟨rfl, rfl, by decide, by decide, Nat.le_trans (by omega) (show 601024 ≤ room_1.cells from Nat.le_refl _), Nat.le_trans (by omega) (show 7293034 ≤ room_1.slots from Nat.le_refl _)⟩ (Nat.le_of_ble_eq_true rfl) dL_law_1202 rfl ?_
  refine j_Perm zP_out ?_
  refine j_cmp (tgt := 1592) hC e3 dL_law_1205 (by decide) ?_
  exact kn _ _ _ _ _ _ _ _ _ _ _ _ _ _ _ _ _ _ he (by omega) (by omega) H'
set_option maxHeartbeats 1000000 in
theorem cn_ask (h : zLaw C E b L o j k n xs) (he : e = 0) (H : zGN s a g ms ma rs) : J C k n (WX E q s a g vt vd ++ (IM E rs ss ca e ++ (WN E mq ms ma sl vr ++ zO E o f))) [(0, .ref b), (1, .ref (q 0)), (2, .ref (mq 0)), (3, .ref o), (4, .int (nI (6 * j)))] 1210 [] := by
  obtain ⟨hC, hS, hj, hL, hk, hn, kc, kn⟩ := h
  obtain ⟨x, y, e1, e2, e3, H'⟩ := rn_ask H 
  refine j_aload_n (q := 1211) hC dL_law_1210 rfl rfl 1 rfl ?_
  refine lX_ask hC q s a g vt vd  x e1 [] zk_X5_ask ⟨rfl, rfl, by decide, by decide, Nat.le_trans (by omega) (show 601024 ≤ room_1.cells from Nat.le_refl _), Nat.le_trans (by omega) (show 7293034 ≤ room_1.slots from Nat.le_refl _)⟩ (by decide) dL_law_1211 rfl ?_
  refine j_aload_n (q := 1215) hC dL_law_1214 rfl rfl 2 rfl ?_
  refine j_Perm zP_in ?_
  refine lN_ask hC mq ms ma sl vr  y e2 [.int x.1] zk_X7_ask ⟨rfl, rfl, by decide, by decide, Nat.le_trans (by omega) (show 601024 ≤ room_1.cells from Nat.le_refl _), Nat.le_trans (by omega) (show 7293034 ≤ room_1.slots from Nat.le_refl _)⟩ (Nat.le_of_ble_eq_true rfl) dL_law_1215 rfl ?_
  refine j_Perm zP_out ?_
  refine j_cmp (tgt := 1592) hC e3 dL_law_1218 (by decide) ?_
  exact kn _ _ _ _ _ _ _ _ _ _ _ _ _ _ _ _ _ _ he (by omega) (by omega) H'
set_option maxHeartbeats 1000000 in
theorem cn_askLeaves (h : zLaw C E b L o j k n xs) (he : e = 0) (H : zGN s a g ms ma rs) : J C k n (WX E q s a g vt vd ++ (IM E rs ss ca e ++ (WN E mq ms ma sl vr ++ zO E o f))) [(0, .ref b), (1, .ref (q 0)), (2, .ref (mq 0)), (3, .ref o), (4, .int (nI (6 * j)))] 1223 [] := by
  obtain ⟨hC, hS, hj, hL, hk, hn, kc, kn⟩ := h
  obtain ⟨x, y, e1, e2, e3, H'⟩ := rn_askLeaves H 
  refine j_aload_n (q := 1224) hC dL_law_1223 rfl rfl 1 rfl ?_
  refine lX_askLeaves hC q s a g vt vd  x e1 [] zk_X5_askLeaves ⟨rfl, rfl, by decide, by decide, Nat.le_trans (by omega) (show 601024 ≤ room_1.cells from Nat.le_refl _), Nat.le_trans (by omega) (show 7293034 ≤ room_1.slots from Nat.le_refl _)⟩ (by decide) dL_law_1224 rfl ?_
  refine j_aload_n (q := 1228) hC dL_law_1227 rfl rfl 2 rfl ?_
  refine j_Perm zP_in ?_
  refine lN_askLeaves hC mq ms ma sl vr  y e2 [.int x.1] zk_X7_askLeaves ⟨rfl, rfl, by decide, by decide, Nat.le_trans (by omega) (show 601024 ≤ room_1.cells from Nat.le_refl _), Nat.le_trans (by omega) (show 7293034 ≤ room_1.slots from Nat.le_refl _)⟩ (Nat.le_of_ble_eq_true rfl) dL_law_1228 rfl ?_
  refine j_Perm zP_out ?_
  refine j_cmp (tgt := 1592) hC e3 dL_law_1231 (by decide) ?_
  exact kn _ _ _ _ _ _ _ _ _ _ _ _ _ _ _ _ _ _ he (by omega) (by omega) H'
set_option maxHeartbeats 1000000 in
theorem cn_judge (h : zLaw C E b L o j k n xs) (he : e = 0) (H : zGN s a g ms ma rs) : J C k n (WX E q s a g vt vd ++ (IM E rs ss ca e ++ (WN E mq ms ma sl vr ++ zO E o f))) [(0, .ref b), (1, .ref (q 0)), (2, .ref (mq 0)), (3, .ref o), (4, .int (nI (6 * j)))] 1236 [] := by
  obtain ⟨hC, hS, hj, hL, hk, hn, kc, kn⟩ := h
  obtain ⟨x, y, e1, e2, e3, H'⟩ := rn_judge H 
  refine j_aload_n (q := 1237) hC dL_law_1236 rfl rfl 1 rfl ?_
  refine lX_judge hC q s a g vt vd  x e1 [] zk_X5_judge ⟨rfl, rfl, by decide, by decide, Nat.le_trans (by omega) (show 601024 ≤ room_1.cells from Nat.le_refl _), Nat.le_trans (by omega) (show 7293034 ≤ room_1.slots from Nat.le_refl _)⟩ (by decide) dL_law_1237 rfl ?_
  refine j_aload_n (q := 1241) hC dL_law_1240 rfl rfl 2 rfl ?_
  refine j_Perm zP_in ?_
  refine lN_judge hC mq ms ma sl vr  y e2 [.int x.1] zk_X7_judge ⟨rfl, rfl, by decide, by decide, Nat.le_trans (by omega) (show 601024 ≤ room_1.cells from Nat.le_refl _), Nat.le_trans (by omega) (show 7293034 ≤ room_1.slots from Nat.le_refl _)⟩ (Nat.le_of_ble_eq_true rfl) dL_law_1241 rfl ?_
  refine j_Perm zP_out ?_
  refine j_cmp (tgt := 1592) hC e3 dL_law_1244 (by decide) ?_
  exact kn _ _ _ _ _ _ _ _ _ _ _ _ _ _ _ _ _ _ he (by omega) (by omega) H'
set_option maxHeartbeats 1000000 in
theorem cn_drawnHits (h : zLaw C E b L o j k n xs) (he : e = 0) (H : zGN s a g ms ma rs) : J C k n (WX E q s a g vt vd ++ (IM E rs ss ca e ++ (WN E mq ms ma sl vr ++ zO E o f))) [(0, .ref b), (1, .ref (q 0)), (2, .ref (mq 0)), (3, .ref o), (4, .int (nI (6 * j)))] 1249 [] := by
  obtain ⟨hC, hS, hj, hL, hk, hn, kc, kn⟩ := h
  obtain ⟨x, y, e1, e2, e3, H'⟩ := rn_drawnHits H (xs (6 * j + 1)) (xs (6 * j + 2))
  refine j_aload_n (q := 1250) hC dL_law_1249 rfl rfl 1 rfl ?_
  refine j_arg (q := 1256) (v := 1) hC hS rfl rfl (by decide) (by omega) hL dL_law_1250 dL_law_1251 dL_law_1253 dL_law_1254 dL_law_1255 rfl ?_
  refine j_arg (q := 1262) (v := 2) hC hS rfl rfl (by decide) (by omega) hL dL_law_1256 dL_law_1257 dL_law_1259 dL_law_1260 dL_law_1261 rfl ?_
  refine lX_drawnHits hC q s a g vt vd (xs (6 * j + 1)) (xs (6 * j + 2)) x e1 [] zk_X5_drawnHits ⟨rfl, rfl, by decide, by decide, Nat.le_trans (by omega) (show 601024 ≤ room_1.cells from Nat.le_refl _), Nat.le_trans (by omega) (show 7293034 ≤ room_1.slots from Nat.le_refl _)⟩ (by decide) dL_law_1262 rfl ?_
  refine j_aload_n (q := 1266) hC dL_law_1265 rfl rfl 2 rfl ?_
  refine j_arg (q := 1272) (v := 1) hC hS rfl rfl (by decide) (by omega) hL dL_law_1266 dL_law_1267 dL_law_1269 dL_law_1270 dL_law_1271 rfl ?_
  refine j_arg (q := 1278) (v := 2) hC hS rfl rfl (by decide) (by omega) hL dL_law_1272 dL_law_1273 dL_law_1275 dL_law_1276 dL_law_1277 rfl ?_
  refine j_Perm zP_in ?_
  refine lN_drawnHits hC mq ms ma sl vr (xs (6 * j + 1)) (xs (6 * j + 2)) y e2 [.int x.1] zk_X7_drawnHits ⟨rfl, rfl, by decide, by decide, Nat.le_trans (by omega) (show 601024 ≤ room_1.cells from Nat.le_refl _), Nat.le_trans (by omega) (show 7293034 ≤ room_1.slots from Nat.le_refl _)⟩ (Nat.le_of_ble_eq_true rfl) dL_law_1278 rfl ?_
  refine j_Perm zP_out ?_
  refine j_cmp (tgt := 1592) hC e3 dL_law_1281 (by decide) ?_
  exact kn _ _ _ _ _ _ _ _ _ _ _ _ _ _ _ _ _ _ he (by omega) (by omega) H'
set_option maxHeartbeats 1000000 in
theorem cn_drawnBacks (h : zLaw C E b L o j k n xs) (he : e = 0) (H : zGN s a g ms ma rs) : J C k n (WX E q s a g vt vd ++ (IM E rs ss ca e ++ (WN E mq ms ma sl vr ++ zO E o f))) [(0, .ref b), (1, .ref (q 0)), (2, .ref (mq 0)), (3, .ref o), (4, .int (nI (6 * j)))] 1286 [] := by
  obtain ⟨hC, hS, hj, hL, hk, hn, kc, kn⟩ := h
  obtain ⟨x, y, e1, e2, e3, H'⟩ := rn_drawnBacks H (xs (6 * j + 1)) (xs (6 * j + 2))
  refine j_aload_n (q := 1287) hC dL_law_1286 rfl rfl 1 rfl ?_
  refine j_arg (q := 1293) (v := 1) hC hS rfl rfl (by decide) (by omega) hL dL_law_1287 dL_law_1288 dL_law_1290 dL_law_1291 dL_law_1292 rfl ?_
  refine j_arg (q := 1299) (v := 2) hC hS rfl rfl (by decide) (by omega) hL dL_law_1293 dL_law_1294 dL_law_1296 dL_law_1297 dL_law_1298 rfl ?_
  refine lX_drawnBacks hC q s a g vt vd (xs (6 * j + 1)) (xs (6 * j + 2)) x e1 [] zk_X5_drawnBacks ⟨rfl, rfl, by decide, by decide, Nat.le_trans (by omega) (show 601024 ≤ room_1.cells from Nat.le_refl _), Nat.le_trans (by omega) (show 7293034 ≤ room_1.slots from Nat.le_refl _)⟩ (by decide) dL_law_1299 rfl ?_
  refine j_aload_n (q := 1303) hC dL_law_1302 rfl rfl 2 rfl ?_
  refine j_arg (q := 1309) (v := 1) hC hS rfl rfl (by decide) (by omega) hL dL_law_1303 dL_law_1304 dL_law_1306 dL_law_1307 dL_law_1308 rfl ?_
  refine j_arg (q := 1315) (v := 2) hC hS rfl rfl (by decide) (by omega) hL dL_law_1309 dL_law_1310 dL_law_1312 dL_law_1313 dL_law_1314 rfl ?_
  refine j_Perm zP_in ?_
  refine lN_drawnBacks hC mq ms ma sl vr (xs (6 * j + 1)) (xs (6 * j + 2)) y e2 [.int x.1] zk_X7_drawnBacks ⟨rfl, rfl, by decide, by decide, Nat.le_trans (by omega) (show 601024 ≤ room_1.cells from Nat.le_refl _), Nat.le_trans (by omega) (show 7293034 ≤ room_1.slots from Nat.le_refl _)⟩ (Nat.le_of_ble_eq_true rfl) dL_law_1315 rfl ?_
  refine j_Perm zP_out ?_
  refine j_cmp (tgt := 1592) hC e3 dL_law_1318 (by decide) ?_
  exact kn _ _ _ _ _ _ _ _ _ _ _ _ _ _ _ _ _ _ he (by omega) (by omega) H'
set_option maxHeartbeats 1000000 in
theorem cn_read (h : zLaw C E b L o j k n xs) (he : e = 0) (H : zGN s a g ms ma rs) : J C k n (WX E q s a g vt vd ++ (IM E rs ss ca e ++ (WN E mq ms ma sl vr ++ zO E o f))) [(0, .ref b), (1, .ref (q 0)), (2, .ref (mq 0)), (3, .ref o), (4, .int (nI (6 * j)))] 1323 [] := by
  obtain ⟨hC, hS, hj, hL, hk, hn, kc, kn⟩ := h
  obtain ⟨x, y, e1, e2, e3, H'⟩ := rn_read H (xs (6 * j + 1)) (xs (6 * j + 2))
  refine j_aload_n (q := 1324) hC dL_law_1323 rfl rfl 1 rfl ?_
  refine j_arg (q := 1330) (v := 1) hC hS rfl rfl (by decide) (by omega) hL dL_law_1324 dL_law_1325 dL_law_1327 dL_law_1328 dL_law_1329 rfl ?_
  refine j_arg (q := 1336) (v := 2) hC hS rfl rfl (by decide) (by omega) hL dL_law_1330 dL_law_1331 dL_law_1333 dL_law_1334 dL_law_1335 rfl ?_
  refine lX_read hC q s a g vt vd (xs (6 * j + 1)) (xs (6 * j + 2)) x e1 [] zk_X5_read ⟨rfl, rfl, by decide, by decide, Nat.le_trans (by omega) (show 601024 ≤ room_1.cells from Nat.le_refl _), Nat.le_trans (by omega) (show 7293034 ≤ room_1.slots from Nat.le_refl _)⟩ (by decide) dL_law_1336 rfl ?_
  refine j_aload_n (q := 1340) hC dL_law_1339 rfl rfl 2 rfl ?_
  refine j_arg (q := 1346) (v := 1) hC hS rfl rfl (by decide) (by omega) hL dL_law_1340 dL_law_1341 dL_law_1343 dL_law_1344 dL_law_1345 rfl ?_
  refine j_arg (q := 1352) (v := 2) hC hS rfl rfl (by decide) (by omega) hL dL_law_1346 dL_law_1347 dL_law_1349 dL_law_1350 dL_law_1351 rfl ?_
  refine j_Perm zP_in ?_
  refine lN_read hC mq ms ma sl vr (xs (6 * j + 1)) (xs (6 * j + 2)) y e2 [.int x.1] zk_X7_read ⟨rfl, rfl, by decide, by decide, Nat.le_trans (by omega) (show 601024 ≤ room_1.cells from Nat.le_refl _), Nat.le_trans (by omega) (show 7293034 ≤ room_1.slots from Nat.le_refl _)⟩ (Nat.le_of_ble_eq_true rfl) dL_law_1352 rfl ?_
  refine j_Perm zP_out ?_
  refine j_cmp (tgt := 1592) hC e3 dL_law_1355 (by decide) ?_
  exact kn _ _ _ _ _ _ _ _ _ _ _ _ _ _ _ _ _ _ he (by omega) (by omega) H'
set_option maxHeartbeats 1000000 in
theorem cn_write (h : zLaw C E b L o j k n xs) (he : e = 0) (H : zGN s a g ms ma rs) : J C k n (WX E q s a g vt vd ++ (IM E rs ss ca e ++ (WN E mq ms ma sl vr ++ zO E o f))) [(0, .ref b), (1, .ref (q 0)), (2, .ref (mq 0)), (3, .ref o), (4, .int (nI (6 * j)))] 1360 [] := by
  obtain ⟨hC, hS, hj, hL, hk, hn, kc, kn⟩ := h
  obtain ⟨x, y, e1, e2, e3, H'⟩ := rn_write H (xs (6 * j + 1)) (xs (6 * j + 2)) (xs (6 * j + 3))
  refine j_aload_n (q := 1361) hC dL_law_1360 rfl rfl 1 rfl ?_
  refine j_arg (q := 1367) (v := 1) hC hS rfl rfl (by decide) (by omega) hL dL_law_1361 dL_law_1362 dL_law_1364 dL_law_1365 dL_law_1366 rfl ?_
  refine j_arg (q := 1373) (v := 2) hC hS rfl rfl (by decide) (by omega) hL dL_law_1367 dL_law_1368 dL_law_1370 dL_law_1371 dL_law_1372 rfl ?_
  refine j_arg (q := 1379) (v := 3) hC hS rfl rfl (by decide) (by omega) hL dL_law_1373 dL_law_1374 dL_law_1376 dL_law_1377 dL_law_1378 rfl ?_
  refine lX_write hC q s a g vt vd (xs (6 * j + 1)) (xs (6 * j + 2)) (xs (6 * j + 3)) x e1 [] zk_X5_write ⟨rfl, rfl, by decide, by decide, Nat.le_trans (by omega) (show 601024 ≤ room_1.cells from Nat.le_refl _), Nat.le_trans (by omega) (show 7293034 ≤ room_1.slots from Nat.le_refl _)⟩ (by decide) dL_law_1379 rfl ?_
  refine j_aload_n (q := 1383) hC dL_law_1382 rfl rfl 2 rfl ?_
  refine j_arg (q := 1389) (v := 1) hC hS rfl rfl (by decide) (by omega) hL dL_law_1383 dL_law_1384 dL_law_1386 dL_law_1387 dL_law_1388 rfl ?_
  refine j_arg (q := 1395) (v := 2) hC hS rfl rfl (by decide) (by omega) hL dL_law_1389 dL_law_1390 dL_law_1392 dL_law_1393 dL_law_1394 rfl ?_
  refine j_arg (q := 1401) (v := 3) hC hS rfl rfl (by decide) (by omega) hL dL_law_1395 dL_law_1396 dL_law_1398 dL_law_1399 dL_law_1400 rfl ?_
  refine j_Perm zP_in ?_
  refine lN_write hC mq ms ma sl vr (xs (6 * j + 1)) (xs (6 * j + 2)) (xs (6 * j + 3)) y e2 [.int x.1] zk_X7_write ⟨rfl, rfl, by decide, by decide, Nat.le_trans (by omega) (show 601024 ≤ room_1.cells from Nat.le_refl _), Nat.le_trans (by omega) (show 7293034 ≤ room_1.slots from Nat.le_refl _)⟩ (Nat.le_of_ble_eq_true rfl) dL_law_1401 rfl ?_
  refine j_Perm zP_out ?_
  refine j_cmp (tgt := 1592) hC e3 dL_law_1404 (by decide) ?_
  exact kn _ _ _ _ _ _ _ _ _ _ _ _ _ _ _ _ _ _ he (by omega) (by omega) H'
set_option maxHeartbeats 1000000 in
theorem cn_drop (h : zLaw C E b L o j k n xs) (he : e = 0) (H : zGN s a g ms ma rs) : J C k n (WX E q s a g vt vd ++ (IM E rs ss ca e ++ (WN E mq ms ma sl vr ++ zO E o f))) [(0, .ref b), (1, .ref (q 0)), (2, .ref (mq 0)), (3, .ref o), (4, .int (nI (6 * j)))] 1409 [] := by
  obtain ⟨hC, hS, hj, hL, hk, hn, kc, kn⟩ := h
  obtain ⟨x, y, e1, e2, e3, H'⟩ := rn_drop H (xs (6 * j + 1))
  refine j_aload_n (q := 1410) hC dL_law_1409 rfl rfl 1 rfl ?_
  refine j_arg (q := 1416) (v := 1) hC hS rfl rfl (by decide) (by omega) hL dL_law_1410 dL_law_1411 dL_law_1413 dL_law_1414 dL_law_1415 rfl ?_
  refine lX_drop hC q s a g vt vd (xs (6 * j + 1)) x e1 [] zk_X5_drop ⟨rfl, rfl, by decide, by decide, Nat.le_trans (by omega) (show 601024 ≤ room_1.cells from Nat.le_refl _), Nat.le_trans (by omega) (show 7293034 ≤ room_1.slots from Nat.le_refl _)⟩ (by decide) dL_law_1416 rfl ?_
  refine j_aload_n (q := 1420) hC dL_law_1419 rfl rfl 2 rfl ?_
  refine j_arg (q := 1426) (v := 1) hC hS rfl rfl (by decide) (by omega) hL dL_law_1420 dL_law_1421 dL_law_1423 dL_law_1424 dL_law_1425 rfl ?_
  refine j_Perm zP_in ?_
  refine lN_drop hC mq ms ma sl vr (xs (6 * j + 1)) y e2 [.int x.1] zk_X7_drop ⟨rfl, rfl, by decide, by decide, Nat.le_trans (by omega) (show 601024 ≤ room_1.cells from Nat.le_refl _), Nat.le_trans (by omega) (show 7293034 ≤ room_1.slots from Nat.le_refl _)⟩ (Nat.le_of_ble_eq_true rfl) dL_law_1426 rfl ?_
  refine j_Perm zP_out ?_
  refine j_cmp (tgt := 1592) hC e3 dL_law_1429 (by decide) ?_
  exact kn _ _ _ _ _ _ _ _ _ _ _ _ _ _ _ _ _ _ he (by omega) (by omega) H'
set_option maxHeartbeats 1000000 in
theorem cn_clean (h : zLaw C E b L o j k n xs) (he : e = 0) (H : zGN s a g ms ma rs) : J C k n (WX E q s a g vt vd ++ (IM E rs ss ca e ++ (WN E mq ms ma sl vr ++ zO E o f))) [(0, .ref b), (1, .ref (q 0)), (2, .ref (mq 0)), (3, .ref o), (4, .int (nI (6 * j)))] 1434 [] := by
  obtain ⟨hC, hS, hj, hL, hk, hn, kc, kn⟩ := h
  obtain ⟨x, y, e1, e2, e3, H'⟩ := rn_clean H 
  refine j_aload_n (q := 1435) hC dL_law_1434 rfl rfl 1 rfl ?_
  refine lX_clean hC q s a g vt vd  x e1 [] zk_X5_clean ⟨rfl, rfl, by decide, by decide, Nat.le_trans (by omega) (show 601024 ≤ room_1.cells from Nat.le_refl _), Nat.le_trans (by omega) (show 7293034 ≤ room_1.slots from Nat.le_refl _)⟩ (by decide) dL_law_1435 rfl ?_
  refine j_aload_n (q := 1439) hC dL_law_1438 rfl rfl 2 rfl ?_
  refine j_Perm zP_in ?_
  refine lN_clean hC mq ms ma sl vr  y e2 [.int x.1] zk_X7_clean ⟨rfl, rfl, by decide, by decide, Nat.le_trans (by omega) (show 601024 ≤ room_1.cells from Nat.le_refl _), Nat.le_trans (by omega) (show 7293034 ≤ room_1.slots from Nat.le_refl _)⟩ (Nat.le_of_ble_eq_true rfl) dL_law_1439 rfl ?_
  refine j_Perm zP_out ?_
  refine j_cmp (tgt := 1592) hC e3 dL_law_1442 (by decide) ?_
  exact kn _ _ _ _ _ _ _ _ _ _ _ _ _ _ _ _ _ _ he (by omega) (by omega) H'
set_option maxHeartbeats 1000000 in
theorem cn_undo (h : zLaw C E b L o j k n xs) (he : e = 0) (H : zGN s a g ms ma rs) : J C k n (WX E q s a g vt vd ++ (IM E rs ss ca e ++ (WN E mq ms ma sl vr ++ zO E o f))) [(0, .ref b), (1, .ref (q 0)), (2, .ref (mq 0)), (3, .ref o), (4, .int (nI (6 * j)))] 1447 [] := by
  obtain ⟨hC, hS, hj, hL, hk, hn, kc, kn⟩ := h
  obtain ⟨x, y, e1, e2, e3, H'⟩ := rn_undo H 
  refine j_aload_n (q := 1448) hC dL_law_1447 rfl rfl 1 rfl ?_
  refine lX_undo hC q s a g vt vd  x e1 [] zk_X5_undo ⟨rfl, rfl, by decide, by decide, Nat.le_trans (by omega) (show 601024 ≤ room_1.cells from Nat.le_refl _), Nat.le_trans (by omega) (show 7293034 ≤ room_1.slots from Nat.le_refl _)⟩ (by decide) dL_law_1448 rfl ?_
  refine j_aload_n (q := 1452) hC dL_law_1451 rfl rfl 2 rfl ?_
  refine j_Perm zP_in ?_
  refine lN_undo hC mq ms ma sl vr  y e2 [.int x.1] zk_X7_undo ⟨rfl, rfl, by decide, by decide, Nat.le_trans (by omega) (show 601024 ≤ room_1.cells from Nat.le_refl _), Nat.le_trans (by omega) (show 7293034 ≤ room_1.slots from Nat.le_refl _)⟩ (Nat.le_of_ble_eq_true rfl) dL_law_1452 rfl ?_
  refine j_Perm zP_out ?_
  refine j_cmp (tgt := 1592) hC e3 dL_law_1455 (by decide) ?_
  exact kn _ _ _ _ _ _ _ _ _ _ _ _ _ _ _ _ _ _ he (by omega) (by omega) H'
set_option maxHeartbeats 1000000 in
theorem cn_image (h : zLaw C E b L o j k n xs) (he : e = 0) (H : zGN s a g ms ma rs) : J C k n (WX E q s a g vt vd ++ (IM E rs ss ca e ++ (WN E mq ms ma sl vr ++ zO E o f))) [(0, .ref b), (1, .ref (q 0)), (2, .ref (mq 0)), (3, .ref o), (4, .int (nI (6 * j)))] 1460 [] := by
  obtain ⟨hC, hS, hj, hL, hk, hn, kc, kn⟩ := h
  obtain ⟨x, y, e1, e2, e3, H'⟩ := rn_image H 
  refine j_aload_n (q := 1461) hC dL_law_1460 rfl rfl 1 rfl ?_
  refine lX_imageR hC q s a g vt vd  x e1 [] zk_X5_image ⟨rfl, rfl, by decide, by decide, Nat.le_trans (by omega) (show 601024 ≤ room_1.cells from Nat.le_refl _), Nat.le_trans (by omega) (show 7293034 ≤ room_1.slots from Nat.le_refl _)⟩ (by decide) dL_law_1461 rfl ?_
  refine j_aload_n (q := 1465) hC dL_law_1464 rfl rfl 2 rfl ?_
  refine j_Perm zP_in ?_
  refine lN_image hC mq ms ma sl vr  y e2 [.int x.1] zk_X7_image ⟨rfl, rfl, by decide, by decide, Nat.le_trans (by omega) (show 601024 ≤ room_1.cells from Nat.le_refl _), Nat.le_trans (by omega) (show 7293034 ≤ room_1.slots from Nat.le_refl _)⟩ (Nat.le_of_ble_eq_true rfl) dL_law_1465 rfl ?_
  refine j_Perm zP_out ?_
  refine j_cmp (tgt := 1592) hC e3 dL_law_1468 (by decide) ?_
  exact kn _ _ _ _ _ _ _ _ _ _ _ _ _ _ _ _ _ _ he (by omega) (by omega) H'
set_option maxHeartbeats 1000000 in
theorem cn_back (h : zLaw C E b L o j k n xs) (he : e = 0) (H : zGN s a g ms ma rs) : J C k n (WX E q s a g vt vd ++ (IM E rs ss ca e ++ (WN E mq ms ma sl vr ++ zO E o f))) [(0, .ref b), (1, .ref (q 0)), (2, .ref (mq 0)), (3, .ref o), (4, .int (nI (6 * j)))] 1473 [] := by
  obtain ⟨hC, hS, hj, hL, hk, hn, kc, kn⟩ := h
  obtain ⟨x, y, e1, e2, e3, H'⟩ := rn_back H (xs (6 * j + 1))
  refine j_aload_n (q := 1474) hC dL_law_1473 rfl rfl 1 rfl ?_
  refine j_arg (q := 1480) (v := 1) hC hS rfl rfl (by decide) (by omega) hL dL_law_1474 dL_law_1475 dL_law_1477 dL_law_1478 dL_law_1479 rfl ?_
  refine lX_backR hC q s a g vt vd (xs (6 * j + 1)) x e1 [] zk_X5_back ⟨rfl, rfl, by decide, by decide, Nat.le_trans (by omega) (show 601024 ≤ room_1.cells from Nat.le_refl _), Nat.le_trans (by omega) (show 7293034 ≤ room_1.slots from Nat.le_refl _)⟩ (by decide) dL_law_1480 rfl ?_
  refine j_aload_n (q := 1484) hC dL_law_1483 rfl rfl 2 rfl ?_
  refine j_arg (q := 1490) (v := 1) hC hS rfl rfl (by decide) (by omega) hL dL_law_1484 dL_law_1485 dL_law_1487 dL_law_1488 dL_law_1489 rfl ?_
  refine j_Perm zP_in ?_
  refine lN_back hC mq ms ma sl vr (xs (6 * j + 1)) y e2 [.int x.1] zk_X7_back ⟨rfl, rfl, by decide, by decide, Nat.le_trans (by omega) (show 601024 ≤ room_1.cells from Nat.le_refl _), Nat.le_trans (by omega) (show 7293034 ≤ room_1.slots from Nat.le_refl _)⟩ (Nat.le_of_ble_eq_true rfl) dL_law_1490 rfl ?_
  refine j_Perm zP_out ?_
  refine j_cmp (tgt := 1592) hC e3 dL_law_1493 (by decide) ?_
  exact kn _ _ _ _ _ _ _ _ _ _ _ _ _ _ _ _ _ _ he (by omega) (by omega) H'
set_option maxHeartbeats 1000000 in
theorem cn_size (h : zLaw C E b L o j k n xs) (he : e = 0) (H : zGN s a g ms ma rs) : J C k n (WX E q s a g vt vd ++ (IM E rs ss ca e ++ (WN E mq ms ma sl vr ++ zO E o f))) [(0, .ref b), (1, .ref (q 0)), (2, .ref (mq 0)), (3, .ref o), (4, .int (nI (6 * j)))] 1554 [] := by
  obtain ⟨hC, hS, hj, hL, hk, hn, kc, kn⟩ := h
  obtain ⟨x, y, e1, e2, e3, H'⟩ := rn_size H (xs (6 * j + 1))
  refine j_aload_n (q := 1555) hC dL_law_1554 rfl rfl 1 rfl ?_
  refine j_arg (q := 1561) (v := 1) hC hS rfl rfl (by decide) (by omega) hL dL_law_1555 dL_law_1556 dL_law_1558 dL_law_1559 dL_law_1560 rfl ?_
  refine lX_size hC q s a g vt vd (xs (6 * j + 1)) x e1 [] zk_X5_size ⟨rfl, rfl, by decide, by decide, Nat.le_trans (by omega) (show 601024 ≤ room_1.cells from Nat.le_refl _), Nat.le_trans (by omega) (show 7293034 ≤ room_1.slots from Nat.le_refl _)⟩ (by decide) dL_law_1561 rfl ?_
  refine j_aload_n (q := 1565) hC dL_law_1564 rfl rfl 2 rfl ?_
  refine j_arg (q := 1571) (v := 1) hC hS rfl rfl (by decide) (by omega) hL dL_law_1565 dL_law_1566 dL_law_1568 dL_law_1569 dL_law_1570 rfl ?_
  refine j_Perm zP_in ?_
  refine lN_size hC mq ms ma sl vr (xs (6 * j + 1)) y e2 [.int x] zk_X7_size ⟨rfl, rfl, by decide, by decide, Nat.le_trans (by omega) (show 601024 ≤ room_1.cells from Nat.le_refl _), Nat.le_trans (by omega) (show 7293034 ≤ room_1.slots from Nat.le_refl _)⟩ (Nat.le_of_ble_eq_true rfl) dL_law_1571 rfl ?_
  refine j_Perm zP_out ?_
  refine j_cmp (tgt := 1592) hC e3 dL_law_1574 (by decide) ?_
  exact kn _ _ _ _ _ _ _ _ _ _ _ _ _ _ _ _ _ _ he (by omega) (by omega) H'
set_option maxHeartbeats 1000000 in
theorem cn_trouble (h : zLaw C E b L o j k n xs) (he : e = 0) (H : zGN s a g ms ma rs) : J C k n (WX E q s a g vt vd ++ (IM E rs ss ca e ++ (WN E mq ms ma sl vr ++ zO E o f))) [(0, .ref b), (1, .ref (q 0)), (2, .ref (mq 0)), (3, .ref o), (4, .int (nI (6 * j)))] 1579 [] := by
  obtain ⟨hC, hS, hj, hL, hk, hn, kc, kn⟩ := h
  obtain ⟨x, y, e1, e2, e3, H'⟩ := rn_trouble H 
  refine j_aload_n (q := 1580) hC dL_law_1579 rfl rfl 1 rfl ?_
  refine lX_trouble hC q s a g vt vd  x e1 [] zk_X5_trouble ⟨rfl, rfl, by decide, by decide, Nat.le_trans (by omega) (show 601024 ≤ room_1.cells from Nat.le_refl _), Nat.le_trans (by omega) (show 7293034 ≤ room_1.slots from Nat.le_refl _)⟩ (by decide) dL_law_1580 rfl ?_
  refine j_aload_n (q := 1584) hC dL_law_1583 rfl rfl 2 rfl ?_
  refine j_Perm zP_in ?_
  refine lN_trouble hC mq ms ma sl vr  y e2 [.int x] zk_X7_trouble ⟨rfl, rfl, by decide, by decide, Nat.le_trans (by omega) (show 601024 ≤ room_1.cells from Nat.le_refl _), Nat.le_trans (by omega) (show 7293034 ≤ room_1.slots from Nat.le_refl _)⟩ (Nat.le_of_ble_eq_true rfl) dL_law_1584 rfl ?_
  refine j_Perm zP_out ?_
  refine j_cmp (tgt := 1592) hC e3 dL_law_1587 (by decide) ?_
  exact kn _ _ _ _ _ _ _ _ _ _ _ _ _ _ _ _ _ _ he (by omega) (by omega) H'
end LAWC
