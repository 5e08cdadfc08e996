/-! THE CASES of the law but man: both answers are one, the state goes on -/
theorem lg_self (x : Int64) : lg_cmp x x = 0 := by
  rw [lg_cmp_eq]
section LCS
variable {l : Launch} {D : gD} {o b L : Nat} {xs : Nat → Int32} {Γ : lC} {kc ks j : Nat} {μ : gMem} {g : Nat → Int64}
theorem lc_0 (hk : kc ≤ 601024) (hs : ks ≤ 7293034) (hj : 6 * j + 6 ≤ L) (hI : invS μ) (kk : ∀ μ', invS μ' → LG l D o b L xs Γ kc ks 1700 (lvL D o b (nI (6 * j))) [] μ' g) : LG l D o b L xs Γ kc ks 216 (lvL D o b (nI (6 * j))) [] μ g := by
  refine l_aload_n dL_law_216 rfl ?_
  refine l_arg 1 hj (by omega) dL_law_217 dL_law_218 dL_law_220 dL_law_221 dL_law_222 ?_
  refine l_arg 2 hj (by omega) dL_law_223 dL_law_224 dL_law_226 dL_law_227 dL_law_228 ?_
  refine l_arg 3 hj (by omega) dL_law_229 dL_law_230 dL_law_232 dL_law_233 dL_law_234 ?_
  refine l_arg 4 hj (by omega) dL_law_235 dL_law_236 dL_law_238 dL_law_239 dL_law_240 ?_
  refine l_arg 5 hj (by omega) dL_law_241 dL_law_242 dL_law_244 dL_law_245 dL_law_246 ?_
  obtain ⟨V9, hV9⟩ := pr_feed (l := l) (D := D) (x1 := xs (6 * j + 1)) (x2 := xs (6 * j + 2)) (x3 := xs (6 * j + 3)) (x4 := xs (6 * j + 4)) (x5 := xs (6 * j + 5)) hI
  refine l_callV (k := 9) (i := 0) (c := 9) (As := [.int (xs (6 * j + 1)), .int (xs (6 * j + 2)), .int (xs (6 * j + 3)), .int (xs (6 * j + 4)), .int (xs (6 * j + 5))]) (rest := []) ca_L_21 hV9 (by decide) (by decide) hk hs (by decide) rfl rfl rfl rfl (by decide) dL_law_247 (lkI (fun v9 μ1 hq1 => ?_))
  refine l_aload_n dL_law_250 rfl ?_
  refine l_arg 1 hj (by omega) dL_law_251 dL_law_252 dL_law_254 dL_law_255 dL_law_256 ?_
  refine l_arg 2 hj (by omega) dL_law_257 dL_law_258 dL_law_260 dL_law_261 dL_law_262 ?_
  refine l_arg 3 hj (by omega) dL_law_263 dL_law_264 dL_law_266 dL_law_267 dL_law_268 ?_
  refine l_arg 4 hj (by omega) dL_law_269 dL_law_270 dL_law_272 dL_law_273 dL_law_274 ?_
  refine l_arg 5 hj (by omega) dL_law_275 dL_law_276 dL_law_278 dL_law_279 dL_law_280 ?_
  refine l_callV (k := 10) (i := 0) (c := 10) (As := [.int (xs (6 * j + 1)), .int (xs (6 * j + 2)), .int (xs (6 * j + 3)), .int (xs (6 * j + 4)), .int (xs (6 * j + 5))]) (rest := [.int v9]) ca_L_25 hq1.2 (by decide) (by decide) hk hs (by decide) rfl rfl rfl rfl (Nat.le_of_ble_eq_true rfl) dL_law_281 (lkI (fun v8 μ2 hq2 => ?_))
  exact l_icmp_eq (tgt := 1700) dL_law_284 rfl (fun _ => kk μ2 hq2.2) (fun hne => absurd (hq1.1.trans hq2.1.symm) hne)
theorem lc_1 (hk : kc ≤ 601024) (hs : ks ≤ 7293034) (hj : 6 * j + 6 ≤ L) (hI : invS μ) (kk : ∀ μ', invS μ' → LG l D o b L xs Γ kc ks 1700 (lvL D o b (nI (6 * j))) [] μ' g) : LG l D o b L xs Γ kc ks 289 (lvL D o b (nI (6 * j))) [] μ g := by
  refine l_aload_n dL_law_289 rfl ?_
  refine l_arg 1 hj (by omega) dL_law_290 dL_law_291 dL_law_293 dL_law_294 dL_law_295 ?_
  obtain ⟨V9, hV9⟩ := pr_text (l := l) (D := D) (x1 := xs (6 * j + 1)) hI
  refine l_callV (k := 9) (i := 0) (c := 9) (As := [.int (xs (6 * j + 1))]) (rest := []) ca_L_26 hV9 (by decide) (by decide) hk hs (by decide) rfl rfl rfl rfl (by decide) dL_law_296 (lkI (fun v9 μ1 hq1 => ?_))
  refine l_aload_n dL_law_299 rfl ?_
  refine l_arg 1 hj (by omega) dL_law_300 dL_law_301 dL_law_303 dL_law_304 dL_law_305 ?_
  refine l_callV (k := 10) (i := 0) (c := 10) (As := [.int (xs (6 * j + 1))]) (rest := [.int v9]) ca_L_30 hq1.2 (by decide) (by decide) hk hs (by decide) rfl rfl rfl rfl (Nat.le_of_ble_eq_true rfl) dL_law_306 (lkI (fun v8 μ2 hq2 => ?_))
  exact l_icmp_eq (tgt := 1700) dL_law_309 rfl (fun _ => kk μ2 hq2.2) (fun hne => absurd (hq1.1.trans hq2.1.symm) hne)
theorem lc_2 (hk : kc ≤ 601024) (hs : ks ≤ 7293034) (hj : 6 * j + 6 ≤ L) (hI : invS μ) (kk : ∀ μ', invS μ' → LG l D o b L xs Γ kc ks 1700 (lvL D o b (nI (6 * j))) [] μ' g) : LG l D o b L xs Γ kc ks 314 (lvL D o b (nI (6 * j))) [] μ g := by
  refine l_aload_n dL_law_314 rfl ?_
  refine l_arg 1 hj (by omega) dL_law_315 dL_law_316 dL_law_318 dL_law_319 dL_law_320 ?_
  obtain ⟨V9, hV9⟩ := pr_fault (l := l) (D := D) (x1 := xs (6 * j + 1)) hI
  refine l_callV (k := 9) (i := 0) (c := 9) (As := [.int (xs (6 * j + 1))]) (rest := []) ca_L_31 hV9 (by decide) (by decide) hk hs (by decide) rfl rfl rfl rfl (by decide) dL_law_321 (lkI (fun v9 μ1 hq1 => ?_))
  refine l_aload_n dL_law_324 rfl ?_
  refine l_arg 1 hj (by omega) dL_law_325 dL_law_326 dL_law_328 dL_law_329 dL_law_330 ?_
  refine l_callV (k := 10) (i := 0) (c := 10) (As := [.int (xs (6 * j + 1))]) (rest := [.int v9]) ca_L_34 hq1.2 (by decide) (by decide) hk hs (by decide) rfl rfl rfl rfl (Nat.le_of_ble_eq_true rfl) dL_law_331 (lkI (fun v8 μ2 hq2 => ?_))
  exact l_icmp_eq (tgt := 1700) dL_law_334 rfl (fun _ => kk μ2 hq2.2) (fun hne => absurd (hq1.1.trans hq2.1.symm) hne)
theorem lc_3 (hk : kc ≤ 601024) (hs : ks ≤ 7293034) (hj : 6 * j + 6 ≤ L) (hI : invS μ) (kk : ∀ μ', invS μ' → LG l D o b L xs Γ kc ks 1700 (lvL D o b (nI (6 * j))) [] μ' g) : LG l D o b L xs Γ kc ks 339 (lvL D o b (nI (6 * j))) [] μ g := by
  refine l_aload_n dL_law_339 rfl ?_
  refine l_arg 1 hj (by omega) dL_law_340 dL_law_341 dL_law_343 dL_law_344 dL_law_345 ?_
  refine l_arg 2 hj (by omega) dL_law_346 dL_law_347 dL_law_349 dL_law_350 dL_law_351 ?_
  obtain ⟨V9, hV9⟩ := pr_named (l := l) (D := D) (x1 := xs (6 * j + 1)) (x2 := xs (6 * j + 2)) hI
  refine l_callV (k := 9) (i := 0) (c := 9) (As := [.int (xs (6 * j + 1)), .int (xs (6 * j + 2))]) (rest := []) ca_L_35 hV9 (by decide) (by decide) hk hs (by decide) rfl rfl rfl rfl (by decide) dL_law_352 (lkI (fun v9 μ1 hq1 => ?_))
  refine l_aload_n dL_law_355 rfl ?_
  refine l_arg 1 hj (by omega) dL_law_356 dL_law_357 dL_law_359 dL_law_360 dL_law_361 ?_
  refine l_arg 2 hj (by omega) dL_law_362 dL_law_363 dL_law_365 dL_law_366 dL_law_367 ?_
  refine l_callV (k := 10) (i := 0) (c := 10) (As := [.int (xs (6 * j + 1)), .int (xs (6 * j + 2))]) (rest := [.int v9]) ca_L_38 hq1.2 (by decide) (by decide) hk hs (by decide) rfl rfl rfl rfl (Nat.le_of_ble_eq_true rfl) dL_law_368 (lkI (fun v8 μ2 hq2 => ?_))
  exact l_icmp_eq (tgt := 1700) dL_law_371 rfl (fun _ => kk μ2 hq2.2) (fun hne => absurd (hq1.1.trans hq2.1.symm) hne)
theorem lc_5 (hk : kc ≤ 601024) (hs : ks ≤ 7293034) (hj : 6 * j + 6 ≤ L) (hI : invS μ) (kk : ∀ μ', invS μ' → LG l D o b L xs Γ kc ks 1700 (lvL D o b (nI (6 * j))) [] μ' g) : LG l D o b L xs Γ kc ks 444 (lvL D o b (nI (6 * j))) [] μ g := by
  refine l_aload_n dL_law_444 rfl ?_
  refine l_arg 1 hj (by omega) dL_law_445 dL_law_446 dL_law_448 dL_law_449 dL_law_450 ?_
  refine l_arg 2 hj (by omega) dL_law_451 dL_law_452 dL_law_454 dL_law_455 dL_law_456 ?_
  obtain ⟨V9, hV9⟩ := pr_has (l := l) (D := D) (x1 := xs (6 * j + 1)) (x2 := xs (6 * j + 2)) hI
  refine l_callV (k := 9) (i := 0) (c := 9) (As := [.int (xs (6 * j + 1)), .int (xs (6 * j + 2))]) (rest := []) ca_L_49 hV9 (by decide) (by decide) hk hs (by decide) rfl rfl rfl rfl (by decide) dL_law_457 (lkI (fun v9 μ1 hq1 => ?_))
  refine l_aload_n dL_law_460 rfl ?_
  refine l_arg 1 hj (by omega) dL_law_461 dL_law_462 dL_law_464 dL_law_465 dL_law_466 ?_
  refine l_arg 2 hj (by omega) dL_law_467 dL_law_468 dL_law_470 dL_law_471 dL_law_472 ?_
  refine l_callV (k := 10) (i := 0) (c := 10) (As := [.int (xs (6 * j + 1)), .int (xs (6 * j + 2))]) (rest := [.int v9]) ca_L_52 hq1.2 (by decide) (by decide) hk hs (by decide) rfl rfl rfl rfl (Nat.le_of_ble_eq_true rfl) dL_law_473 (lkI (fun v8 μ2 hq2 => ?_))
  exact l_icmp_eq (tgt := 1700) dL_law_476 rfl (fun _ => kk μ2 hq2.2) (fun hne => absurd (hq1.1.trans hq2.1.symm) hne)
theorem lc_6 (hk : kc ≤ 601024) (hs : ks ≤ 7293034) (hj : 6 * j + 6 ≤ L) (hI : invS μ) (kk : ∀ μ', invS μ' → LG l D o b L xs Γ kc ks 1700 (lvL D o b (nI (6 * j))) [] μ' g) : LG l D o b L xs Γ kc ks 481 (lvL D o b (nI (6 * j))) [] μ g := by
  refine l_aload_n dL_law_481 rfl ?_
  refine l_arg 1 hj (by omega) dL_law_482 dL_law_483 dL_law_485 dL_law_486 dL_law_487 ?_
  refine l_arg 2 hj (by omega) dL_law_488 dL_law_489 dL_law_491 dL_law_492 dL_law_493 ?_
  obtain ⟨V9, hV9⟩ := pr_deed (l := l) (D := D) (x1 := xs (6 * j + 1)) (x2 := xs (6 * j + 2)) hI
  refine l_callV (k := 9) (i := 0) (c := 9) (As := [.int (xs (6 * j + 1)), .int (xs (6 * j + 2))]) (rest := []) ca_L_53 hV9 (by decide) (by decide) hk hs (by decide) rfl rfl rfl rfl (by decide) dL_law_494 (lkI (fun v9 μ1 hq1 => ?_))
  refine l_aload_n dL_law_497 rfl ?_
  refine l_arg 1 hj (by omega) dL_law_498 dL_law_499 dL_law_501 dL_law_502 dL_law_503 ?_
  refine l_arg 2 hj (by omega) dL_law_504 dL_law_505 dL_law_507 dL_law_508 dL_law_509 ?_
  refine l_callV (k := 10) (i := 0) (c := 10) (As := [.int (xs (6 * j + 1)), .int (xs (6 * j + 2))]) (rest := [.int v9]) ca_L_56 hq1.2 (by decide) (by decide) hk hs (by decide) rfl rfl rfl rfl (Nat.le_of_ble_eq_true rfl) dL_law_510 (lkI (fun v8 μ2 hq2 => ?_))
  exact l_icmp_eq (tgt := 1700) dL_law_513 rfl (fun _ => kk μ2 hq2.2) (fun hne => absurd (hq1.1.trans hq2.1.symm) hne)
theorem lc_7 (hk : kc ≤ 601024) (hs : ks ≤ 7293034) (hj : 6 * j + 6 ≤ L) (hI : invS μ) (kk : ∀ μ', invS μ' → LG l D o b L xs Γ kc ks 1700 (lvL D o b (nI (6 * j))) [] μ' g) : LG l D o b L xs Γ kc ks 518 (lvL D o b (nI (6 * j))) [] μ g := by
  refine l_aload_n dL_law_518 rfl ?_
  refine l_arg 1 hj (by omega) dL_law_519 dL_law_520 dL_law_522 dL_law_523 dL_law_524 ?_
  refine l_arg 2 hj (by omega) dL_law_525 dL_law_526 dL_law_528 dL_law_529 dL_law_530 ?_
  obtain ⟨V9, hV9⟩ := pr_times (l := l) (D := D) (x1 := xs (6 * j + 1)) (x2 := xs (6 * j + 2)) hI
  refine l_callV (k := 9) (i := 0) (c := 9) (As := [.int (xs (6 * j + 1)), .int (xs (6 * j + 2))]) (rest := []) ca_L_57 hV9 (by decide) (by decide) hk hs (by decide) rfl rfl rfl rfl (by decide) dL_law_531 (lkI (fun v9 μ1 hq1 => ?_))
  refine l_aload_n dL_law_534 rfl ?_
  refine l_arg 1 hj (by omega) dL_law_535 dL_law_536 dL_law_538 dL_law_539 dL_law_540 ?_
  refine l_arg 2 hj (by omega) dL_law_541 dL_law_542 dL_law_544 dL_law_545 dL_law_546 ?_
  refine l_callV (k := 10) (i := 0) (c := 10) (As := [.int (xs (6 * j + 1)), .int (xs (6 * j + 2))]) (rest := [.int v9]) ca_L_60 hq1.2 (by decide) (by decide) hk hs (by decide) rfl rfl rfl rfl (Nat.le_of_ble_eq_true rfl) dL_law_547 (lkI (fun v8 μ2 hq2 => ?_))
  exact l_icmp_eq (tgt := 1700) dL_law_550 rfl (fun _ => kk μ2 hq2.2) (fun hne => absurd (hq1.1.trans hq2.1.symm) hne)
theorem lc_8 (hk : kc ≤ 601024) (hs : ks ≤ 7293034) (hj : 6 * j + 6 ≤ L) (hI : invS μ) (kk : ∀ μ', invS μ' → LG l D o b L xs Γ kc ks 1700 (lvL D o b (nI (6 * j))) [] μ' g) : LG l D o b L xs Γ kc ks 555 (lvL D o b (nI (6 * j))) [] μ g := by
  refine l_aload_n dL_law_555 rfl ?_
  refine l_arg 1 hj (by omega) dL_law_556 dL_law_557 dL_law_559 dL_law_560 dL_law_561 ?_
  refine l_arg 2 hj (by omega) dL_law_562 dL_law_563 dL_law_565 dL_law_566 dL_law_567 ?_
  obtain ⟨V9, hV9⟩ := pr_law (l := l) (D := D) (x1 := xs (6 * j + 1)) (x2 := xs (6 * j + 2)) hI
  refine l_callV (k := 9) (i := 0) (c := 9) (As := [.int (xs (6 * j + 1)), .int (xs (6 * j + 2))]) (rest := []) ca_L_61 hV9 (by decide) (by decide) hk hs (by decide) rfl rfl rfl rfl (by decide) dL_law_568 (lkJ (fun v9 μ1 hq1 => ?_))
  refine l_aload_n dL_law_571 rfl ?_
  refine l_arg 1 hj (by omega) dL_law_572 dL_law_573 dL_law_575 dL_law_576 dL_law_577 ?_
  refine l_arg 2 hj (by omega) dL_law_578 dL_law_579 dL_law_581 dL_law_582 dL_law_583 ?_
  refine l_callV (k := 10) (i := 0) (c := 10) (As := [.int (xs (6 * j + 1)), .int (xs (6 * j + 2))]) (rest := [.long v9]) ca_L_65 hq1.2 (by decide) (by decide) hk hs (by decide) rfl rfl rfl rfl (Nat.le_of_ble_eq_true rfl) dL_law_584 (lkJ (fun v8 μ2 hq2 => ?_))
  refine l_lcmp dL_law_587 ?_
  refine l_if_eq (tgt := 1700) dL_law_588 rfl (fun _ => kk μ2 hq2.2) (fun hne => absurd ?_ hne)
  rw [hq1.1, hq2.1]
  exact lg_self _
theorem lc_9 (hk : kc ≤ 601024) (hs : ks ≤ 7293034) (hj : 6 * j + 6 ≤ L) (hI : invS μ) (kk : ∀ μ', invS μ' → LG l D o b L xs Γ kc ks 1700 (lvL D o b (nI (6 * j))) [] μ' g) : LG l D o b L xs Γ kc ks 593 (lvL D o b (nI (6 * j))) [] μ g := by
  refine l_aload_n dL_law_593 rfl ?_
  refine l_arg 1 hj (by omega) dL_law_594 dL_law_595 dL_law_597 dL_law_598 dL_law_599 ?_
  refine l_arg 2 hj (by omega) dL_law_600 dL_law_601 dL_law_603 dL_law_604 dL_law_605 ?_
  refine l_bool dL_law_606 dL_law_609 dL_law_610 dL_law_613 ?_
  obtain ⟨V9, hV9⟩ := pr_wear (l := l) (D := D) (x1 := xs (6 * j + 1)) (x2 := bZ9 (xs (6 * j + 2))) (bZ9_01 _) hI
  refine l_callV (k := 9) (i := 0) (c := 9) (As := [.int (xs (6 * j + 1)), .int (bZ9 (xs (6 * j + 2)))]) (rest := []) ca_L_66 hV9 (by decide) (by decide) hk hs (by decide) rfl rfl rfl rfl (by decide) dL_law_614 (lkI (fun v9 μ1 hq1 => ?_))
  refine l_aload_n dL_law_617 rfl ?_
  refine l_arg 1 hj (by omega) dL_law_618 dL_law_619 dL_law_621 dL_law_622 dL_law_623 ?_
  refine l_arg 2 hj (by omega) dL_law_624 dL_law_625 dL_law_627 dL_law_628 dL_law_629 ?_
  refine l_bool dL_law_630 dL_law_633 dL_law_634 dL_law_637 ?_
  refine l_callV (k := 10) (i := 0) (c := 10) (As := [.int (xs (6 * j + 1)), .int (bZ9 (xs (6 * j + 2)))]) (rest := [.int v9]) ca_L_70 hq1.2 (by decide) (by decide) hk hs (by decide) rfl rfl rfl rfl (Nat.le_of_ble_eq_true rfl) dL_law_638 (lkI (fun v8 μ2 hq2 => ?_))
  exact l_icmp_eq (tgt := 1700) dL_law_641 rfl (fun _ => kk μ2 hq2.2) (fun hne => absurd (hq1.1.trans hq2.1.symm) hne)
theorem lc_10 (hk : kc ≤ 601024) (hs : ks ≤ 7293034) (hj : 6 * j + 6 ≤ L) (hI : invS μ) (kk : ∀ μ', invS μ' → LG l D o b L xs Γ kc ks 1700 (lvL D o b (nI (6 * j))) [] μ' g) : LG l D o b L xs Γ kc ks 646 (lvL D o b (nI (6 * j))) [] μ g := by
  refine l_aload_n dL_law_646 rfl ?_
  refine l_arg 1 hj (by omega) dL_law_647 dL_law_648 dL_law_650 dL_law_651 dL_law_652 ?_
  refine l_arg 2 hj (by omega) dL_law_653 dL_law_654 dL_law_656 dL_law_657 dL_law_658 ?_
  obtain ⟨V9, hV9⟩ := pr_goal (l := l) (D := D) (x1 := xs (6 * j + 1)) (x2 := xs (6 * j + 2)) hI
  refine l_callV (k := 9) (i := 0) (c := 9) (As := [.int (xs (6 * j + 1)), .int (xs (6 * j + 2))]) (rest := []) ca_L_71 hV9 (by decide) (by decide) hk hs (by decide) rfl rfl rfl rfl (by decide) dL_law_659 (lkI (fun v9 μ1 hq1 => ?_))
  refine l_aload_n dL_law_662 rfl ?_
  refine l_arg 1 hj (by omega) dL_law_663 dL_law_664 dL_law_666 dL_law_667 dL_law_668 ?_
  refine l_arg 2 hj (by omega) dL_law_669 dL_law_670 dL_law_672 dL_law_673 dL_law_674 ?_
  refine l_callV (k := 10) (i := 0) (c := 10) (As := [.int (xs (6 * j + 1)), .int (xs (6 * j + 2))]) (rest := [.int v9]) ca_L_75 hq1.2 (by decide) (by decide) hk hs (by decide) rfl rfl rfl rfl (Nat.le_of_ble_eq_true rfl) dL_law_675 (lkI (fun v8 μ2 hq2 => ?_))
  exact l_icmp_eq (tgt := 1700) dL_law_678 rfl (fun _ => kk μ2 hq2.2) (fun hne => absurd (hq1.1.trans hq2.1.symm) hne)
theorem lc_11 (hk : kc ≤ 601024) (hs : ks ≤ 7293034) (hj : 6 * j + 6 ≤ L) (hI : invS μ) (kk : ∀ μ', invS μ' → LG l D o b L xs Γ kc ks 1700 (lvL D o b (nI (6 * j))) [] μ' g) : LG l D o b L xs Γ kc ks 683 (lvL D o b (nI (6 * j))) [] μ g := by
  refine l_aload_n dL_law_683 rfl ?_
  refine l_arg 1 hj (by omega) dL_law_684 dL_law_685 dL_law_687 dL_law_688 dL_law_689 ?_
  refine l_arg 2 hj (by omega) dL_law_690 dL_law_691 dL_law_693 dL_law_694 dL_law_695 ?_
  refine l_arg 3 hj (by omega) dL_law_696 dL_law_697 dL_law_699 dL_law_700 dL_law_701 ?_
  obtain ⟨V9, hV9⟩ := pr_plan (l := l) (D := D) (x1 := xs (6 * j + 1)) (x2 := xs (6 * j + 2)) (x3 := xs (6 * j + 3)) hI
  refine l_callV (k := 9) (i := 0) (c := 9) (As := [.int (xs (6 * j + 1)), .int (xs (6 * j + 2)), .int (xs (6 * j + 3))]) (rest := []) ca_L_76 hV9 (by decide) (by decide) hk hs (by decide) rfl rfl rfl rfl (by decide) dL_law_702 (lkI (fun v9 μ1 hq1 => ?_))
  refine l_aload_n dL_law_705 rfl ?_
  refine l_arg 1 hj (by omega) dL_law_706 dL_law_707 dL_law_709 dL_law_710 dL_law_711 ?_
  refine l_arg 2 hj (by omega) dL_law_712 dL_law_713 dL_law_715 dL_law_716 dL_law_717 ?_
  refine l_arg 3 hj (by omega) dL_law_718 dL_law_719 dL_law_721 dL_law_722 dL_law_723 ?_
  refine l_callV (k := 10) (i := 0) (c := 10) (As := [.int (xs (6 * j + 1)), .int (xs (6 * j + 2)), .int (xs (6 * j + 3))]) (rest := [.int v9]) ca_L_80 hq1.2 (by decide) (by decide) hk hs (by decide) rfl rfl rfl rfl (Nat.le_of_ble_eq_true rfl) dL_law_724 (lkI (fun v8 μ2 hq2 => ?_))
  exact l_icmp_eq (tgt := 1700) dL_law_727 rfl (fun _ => kk μ2 hq2.2) (fun hne => absurd (hq1.1.trans hq2.1.symm) hne)
theorem lc_12 (hk : kc ≤ 601024) (hs : ks ≤ 7293034) (hj : 6 * j + 6 ≤ L) (hI : invS μ) (kk : ∀ μ', invS μ' → LG l D o b L xs Γ kc ks 1700 (lvL D o b (nI (6 * j))) [] μ' g) : LG l D o b L xs Γ kc ks 732 (lvL D o b (nI (6 * j))) [] μ g := by
  refine l_aload_n dL_law_732 rfl ?_
  refine l_arg 1 hj (by omega) dL_law_733 dL_law_734 dL_law_736 dL_law_737 dL_law_738 ?_
  refine l_arg 2 hj (by omega) dL_law_739 dL_law_740 dL_law_742 dL_law_743 dL_law_744 ?_
  obtain ⟨V9, hV9⟩ := pr_lend (l := l) (D := D) (x1 := xs (6 * j + 1)) (x2 := xs (6 * j + 2)) hI
  refine l_callV (k := 9) (i := 0) (c := 9) (As := [.int (xs (6 * j + 1)), .int (xs (6 * j + 2))]) (rest := []) ca_L_81 hV9 (by decide) (by decide) hk hs (by decide) rfl rfl rfl rfl (by decide) dL_law_745 (lkI (fun v9 μ1 hq1 => ?_))
  refine l_aload_n dL_law_748 rfl ?_
  refine l_arg 1 hj (by omega) dL_law_749 dL_law_750 dL_law_752 dL_law_753 dL_law_754 ?_
  refine l_arg 2 hj (by omega) dL_law_755 dL_law_756 dL_law_758 dL_law_759 dL_law_760 ?_
  refine l_callV (k := 10) (i := 0) (c := 10) (As := [.int (xs (6 * j + 1)), .int (xs (6 * j + 2))]) (rest := [.int v9]) ca_L_84 hq1.2 (by decide) (by decide) hk hs (by decide) rfl rfl rfl rfl (Nat.le_of_ble_eq_true rfl) dL_law_761 (lkI (fun v8 μ2 hq2 => ?_))
  exact l_icmp_eq (tgt := 1700) dL_law_764 rfl (fun _ => kk μ2 hq2.2) (fun hne => absurd (hq1.1.trans hq2.1.symm) hne)
theorem lc_13 (hk : kc ≤ 601024) (hs : ks ≤ 7293034) (hj : 6 * j + 6 ≤ L) (hI : invS μ) (kk : ∀ μ', invS μ' → LG l D o b L xs Γ kc ks 1700 (lvL D o b (nI (6 * j))) [] μ' g) : LG l D o b L xs Γ kc ks 769 (lvL D o b (nI (6 * j))) [] μ g := by
  refine l_aload_n dL_law_769 rfl ?_
  refine l_arg 1 hj (by omega) dL_law_770 dL_law_771 dL_law_773 dL_law_774 dL_law_775 ?_
  obtain ⟨V9, hV9⟩ := pr_go (l := l) (D := D) (x1 := xs (6 * j + 1)) hI
  refine l_callV (k := 9) (i := 0) (c := 9) (As := [.int (xs (6 * j + 1))]) (rest := []) ca_L_85 hV9 (by decide) (by decide) hk hs (by decide) rfl rfl rfl rfl (by decide) dL_law_776 (lkI (fun v9 μ1 hq1 => ?_))
  refine l_aload_n dL_law_779 rfl ?_
  refine l_arg 1 hj (by omega) dL_law_780 dL_law_781 dL_law_783 dL_law_784 dL_law_785 ?_
  refine l_callV (k := 10) (i := 0) (c := 10) (As := [.int (xs (6 * j + 1))]) (rest := [.int v9]) ca_L_88 hq1.2 (by decide) (by decide) hk hs (by decide) rfl rfl rfl rfl (Nat.le_of_ble_eq_true rfl) dL_law_786 (lkI (fun v8 μ2 hq2 => ?_))
  exact l_icmp_eq (tgt := 1700) dL_law_789 rfl (fun _ => kk μ2 hq2.2) (fun hne => absurd (hq1.1.trans hq2.1.symm) hne)
theorem lc_14 (hk : kc ≤ 601024) (hs : ks ≤ 7293034) (hj : 6 * j + 6 ≤ L) (hI : invS μ) (kk : ∀ μ', invS μ' → LG l D o b L xs Γ kc ks 1700 (lvL D o b (nI (6 * j))) [] μ' g) : LG l D o b L xs Γ kc ks 794 (lvL D o b (nI (6 * j))) [] μ g := by
  refine l_aload_n dL_law_794 rfl ?_
  refine l_arg 1 hj (by omega) dL_law_795 dL_law_796 dL_law_798 dL_law_799 dL_law_800 ?_
  refine l_arg 2 hj (by omega) dL_law_801 dL_law_802 dL_law_804 dL_law_805 dL_law_806 ?_
  refine l_arg 3 hj (by omega) dL_law_807 dL_law_808 dL_law_810 dL_law_811 dL_law_812 ?_
  obtain ⟨V9, hV9⟩ := pr_ahead (l := l) (D := D) (x1 := xs (6 * j + 1)) (x2 := xs (6 * j + 2)) (x3 := xs (6 * j + 3)) hI
  refine l_callV (k := 9) (i := 0) (c := 9) (As := [.int (xs (6 * j + 1)), .int (xs (6 * j + 2)), .int (xs (6 * j + 3))]) (rest := []) ca_L_89 hV9 (by decide) (by decide) hk hs (by decide) rfl rfl rfl rfl (by decide) dL_law_813 (lkI (fun v9 μ1 hq1 => ?_))
  refine l_aload_n dL_law_816 rfl ?_
  refine l_arg 1 hj (by omega) dL_law_817 dL_law_818 dL_law_820 dL_law_821 dL_law_822 ?_
  refine l_arg 2 hj (by omega) dL_law_823 dL_law_824 dL_law_826 dL_law_827 dL_law_828 ?_
  refine l_arg 3 hj (by omega) dL_law_829 dL_law_830 dL_law_832 dL_law_833 dL_law_834 ?_
  refine l_callV (k := 10) (i := 0) (c := 10) (As := [.int (xs (6 * j + 1)), .int (xs (6 * j + 2)), .int (xs (6 * j + 3))]) (rest := [.int v9]) ca_L_93 hq1.2 (by decide) (by decide) hk hs (by decide) rfl rfl rfl rfl (Nat.le_of_ble_eq_true rfl) dL_law_835 (lkI (fun v8 μ2 hq2 => ?_))
  exact l_icmp_eq (tgt := 1700) dL_law_838 rfl (fun _ => kk μ2 hq2.2) (fun hne => absurd (hq1.1.trans hq2.1.symm) hne)
theorem lc_15 (hk : kc ≤ 601024) (hs : ks ≤ 7293034) (hj : 6 * j + 6 ≤ L) (hI : invS μ) (kk : ∀ μ', invS μ' → LG l D o b L xs Γ kc ks 1700 (lvL D o b (nI (6 * j))) [] μ' g) : LG l D o b L xs Γ kc ks 843 (lvL D o b (nI (6 * j))) [] μ g := by
  refine l_aload_n dL_law_843 rfl ?_
  refine l_arg 1 hj (by omega) dL_law_844 dL_law_845 dL_law_847 dL_law_848 dL_law_849 ?_
  refine l_arg 2 hj (by omega) dL_law_850 dL_law_851 dL_law_853 dL_law_854 dL_law_855 ?_
  obtain ⟨V9, hV9⟩ := pr_reaches (l := l) (D := D) (x1 := xs (6 * j + 1)) (x2 := xs (6 * j + 2)) hI
  refine l_callV (k := 9) (i := 0) (c := 9) (As := [.int (xs (6 * j + 1)), .int (xs (6 * j + 2))]) (rest := []) ca_L_94 hV9 (by decide) (by decide) hk hs (by decide) rfl rfl rfl rfl (by decide) dL_law_856 (lkI (fun v9 μ1 hq1 => ?_))
  refine l_aload_n dL_law_859 rfl ?_
  refine l_arg 1 hj (by omega) dL_law_860 dL_law_861 dL_law_863 dL_law_864 dL_law_865 ?_
  refine l_arg 2 hj (by omega) dL_law_866 dL_law_867 dL_law_869 dL_law_870 dL_law_871 ?_
  refine l_callV (k := 10) (i := 0) (c := 10) (As := [.int (xs (6 * j + 1)), .int (xs (6 * j + 2))]) (rest := [.int v9]) ca_L_97 hq1.2 (by decide) (by decide) hk hs (by decide) rfl rfl rfl rfl (Nat.le_of_ble_eq_true rfl) dL_law_872 (lkI (fun v8 μ2 hq2 => ?_))
  exact l_icmp_eq (tgt := 1700) dL_law_875 rfl (fun _ => kk μ2 hq2.2) (fun hne => absurd (hq1.1.trans hq2.1.symm) hne)
theorem lc_16 (hk : kc ≤ 601024) (hs : ks ≤ 7293034) (hj : 6 * j + 6 ≤ L) (hI : invS μ) (kk : ∀ μ', invS μ' → LG l D o b L xs Γ kc ks 1700 (lvL D o b (nI (6 * j))) [] μ' g) : LG l D o b L xs Γ kc ks 880 (lvL D o b (nI (6 * j))) [] μ g := by
  refine l_aload_n dL_law_880 rfl ?_
  refine l_arg 1 hj (by omega) dL_law_881 dL_law_882 dL_law_884 dL_law_885 dL_law_886 ?_
  refine l_arg 2 hj (by omega) dL_law_887 dL_law_888 dL_law_890 dL_law_891 dL_law_892 ?_
  obtain ⟨V9, hV9⟩ := pr_longest (l := l) (D := D) (x1 := xs (6 * j + 1)) (x2 := xs (6 * j + 2)) hI
  refine l_callV (k := 9) (i := 0) (c := 9) (As := [.int (xs (6 * j + 1)), .int (xs (6 * j + 2))]) (rest := []) ca_L_98 hV9 (by decide) (by decide) hk hs (by decide) rfl rfl rfl rfl (by decide) dL_law_893 (lkI (fun v9 μ1 hq1 => ?_))
  refine l_aload_n dL_law_896 rfl ?_
  refine l_arg 1 hj (by omega) dL_law_897 dL_law_898 dL_law_900 dL_law_901 dL_law_902 ?_
  refine l_arg 2 hj (by omega) dL_law_903 dL_law_904 dL_law_906 dL_law_907 dL_law_908 ?_
  refine l_callV (k := 10) (i := 0) (c := 10) (As := [.int (xs (6 * j + 1)), .int (xs (6 * j + 2))]) (rest := [.int v9]) ca_L_101 hq1.2 (by decide) (by decide) hk hs (by decide) rfl rfl rfl rfl (Nat.le_of_ble_eq_true rfl) dL_law_909 (lkI (fun v8 μ2 hq2 => ?_))
  exact l_icmp_eq (tgt := 1700) dL_law_912 rfl (fun _ => kk μ2 hq2.2) (fun hne => absurd (hq1.1.trans hq2.1.symm) hne)
theorem lc_17 (hk : kc ≤ 601024) (hs : ks ≤ 7293034) (hj : 6 * j + 6 ≤ L) (hI : invS μ) (kk : ∀ μ', invS μ' → LG l D o b L xs Γ kc ks 1700 (lvL D o b (nI (6 * j))) [] μ' g) : LG l D o b L xs Γ kc ks 917 (lvL D o b (nI (6 * j))) [] μ g := by
  refine l_aload_n dL_law_917 rfl ?_
  refine l_arg 1 hj (by omega) dL_law_918 dL_law_919 dL_law_921 dL_law_922 dL_law_923 ?_
  refine l_arg 2 hj (by omega) dL_law_924 dL_law_925 dL_law_927 dL_law_928 dL_law_929 ?_
  refine l_arg 3 hj (by omega) dL_law_930 dL_law_931 dL_law_933 dL_law_934 dL_law_935 ?_
  obtain ⟨V9, hV9⟩ := pr_moves (l := l) (D := D) (x1 := xs (6 * j + 1)) (x2 := xs (6 * j + 2)) (x3 := xs (6 * j + 3)) hI
  refine l_callV (k := 9) (i := 0) (c := 9) (As := [.int (xs (6 * j + 1)), .int (xs (6 * j + 2)), .int (xs (6 * j + 3))]) (rest := []) ca_L_102 hV9 (by decide) (by decide) hk hs (by decide) rfl rfl rfl rfl (by decide) dL_law_936 (lkI (fun v9 μ1 hq1 => ?_))
  refine l_aload_n dL_law_939 rfl ?_
  refine l_arg 1 hj (by omega) dL_law_940 dL_law_941 dL_law_943 dL_law_944 dL_law_945 ?_
  refine l_arg 2 hj (by omega) dL_law_946 dL_law_947 dL_law_949 dL_law_950 dL_law_951 ?_
  refine l_arg 3 hj (by omega) dL_law_952 dL_law_953 dL_law_955 dL_law_956 dL_law_957 ?_
  refine l_callV (k := 10) (i := 0) (c := 10) (As := [.int (xs (6 * j + 1)), .int (xs (6 * j + 2)), .int (xs (6 * j + 3))]) (rest := [.int v9]) ca_L_105 hq1.2 (by decide) (by decide) hk hs (by decide) rfl rfl rfl rfl (Nat.le_of_ble_eq_true rfl) dL_law_958 (lkI (fun v8 μ2 hq2 => ?_))
  exact l_icmp_eq (tgt := 1700) dL_law_961 rfl (fun _ => kk μ2 hq2.2) (fun hne => absurd (hq1.1.trans hq2.1.symm) hne)
theorem lc_18 (hk : kc ≤ 601024) (hs : ks ≤ 7293034) (hj : 6 * j + 6 ≤ L) (hI : invS μ) (kk : ∀ μ', invS μ' → LG l D o b L xs Γ kc ks 1700 (lvL D o b (nI (6 * j))) [] μ' g) : LG l D o b L xs Γ kc ks 966 (lvL D o b (nI (6 * j))) [] μ g := by
  refine l_aload_n dL_law_966 rfl ?_
  refine l_arg 1 hj (by omega) dL_law_967 dL_law_968 dL_law_970 dL_law_971 dL_law_972 ?_
  refine l_arg 2 hj (by omega) dL_law_973 dL_law_974 dL_law_976 dL_law_977 dL_law_978 ?_
  obtain ⟨V9, hV9⟩ := pr_deeds (l := l) (D := D) (x1 := xs (6 * j + 1)) (x2 := xs (6 * j + 2)) hI
  refine l_callV (k := 9) (i := 0) (c := 9) (As := [.int (xs (6 * j + 1)), .int (xs (6 * j + 2))]) (rest := []) ca_L_106 hV9 (by decide) (by decide) hk hs (by decide) rfl rfl rfl rfl (by decide) dL_law_979 (lkI (fun v9 μ1 hq1 => ?_))
  refine l_aload_n dL_law_982 rfl ?_
  refine l_arg 1 hj (by omega) dL_law_983 dL_law_984 dL_law_986 dL_law_987 dL_law_988 ?_
  refine l_arg 2 hj (by omega) dL_law_989 dL_law_990 dL_law_992 dL_law_993 dL_law_994 ?_
  refine l_callV (k := 10) (i := 0) (c := 10) (As := [.int (xs (6 * j + 1)), .int (xs (6 * j + 2))]) (rest := [.int v9]) ca_L_109 hq1.2 (by decide) (by decide) hk hs (by decide) rfl rfl rfl rfl (Nat.le_of_ble_eq_true rfl) dL_law_995 (lkI (fun v8 μ2 hq2 => ?_))
  exact l_icmp_eq (tgt := 1700) dL_law_998 rfl (fun _ => kk μ2 hq2.2) (fun hne => absurd (hq1.1.trans hq2.1.symm) hne)
theorem lc_19 (hk : kc ≤ 601024) (hs : ks ≤ 7293034) (hj : 6 * j + 6 ≤ L) (hI : invS μ) (kk : ∀ μ', invS μ' → LG l D o b L xs Γ kc ks 1700 (lvL D o b (nI (6 * j))) [] μ' g) : LG l D o b L xs Γ kc ks 1003 (lvL D o b (nI (6 * j))) [] μ g := by
  refine l_aload_n dL_law_1003 rfl ?_
  obtain ⟨V9, hV9⟩ := pr_leads (l := l) (D := D) hI
  refine l_callV (k := 9) (i := 0) (c := 9) (As := []) (rest := []) ca_L_110 hV9 (by decide) (by decide) hk hs (by decide) rfl rfl rfl rfl (by decide) dL_law_1004 (lkI (fun v9 μ1 hq1 => ?_))
  refine l_aload_n dL_law_1007 rfl ?_
  refine l_callV (k := 10) (i := 0) (c := 10) (As := []) (rest := [.int v9]) ca_L_113 hq1.2 (by decide) (by decide) hk hs (by decide) rfl rfl rfl rfl (Nat.le_of_ble_eq_true rfl) dL_law_1008 (lkI (fun v8 μ2 hq2 => ?_))
  exact l_icmp_eq (tgt := 1700) dL_law_1011 rfl (fun _ => kk μ2 hq2.2) (fun hne => absurd (hq1.1.trans hq2.1.symm) hne)
theorem lc_20 (hk : kc ≤ 601024) (hs : ks ≤ 7293034) (hj : 6 * j + 6 ≤ L) (hI : invS μ) (kk : ∀ μ', invS μ' → LG l D o b L xs Γ kc ks 1700 (lvL D o b (nI (6 * j))) [] μ' g) : LG l D o b L xs Γ kc ks 1016 (lvL D o b (nI (6 * j))) [] μ g := by
  refine l_aload_n dL_law_1016 rfl ?_
  refine l_arg 1 hj (by omega) dL_law_1017 dL_law_1018 dL_law_1020 dL_law_1021 dL_law_1022 ?_
  obtain ⟨V9, hV9⟩ := pr_winner (l := l) (D := D) (x1 := xs (6 * j + 1)) hI
  refine l_callV (k := 9) (i := 0) (c := 9) (As := [.int (xs (6 * j + 1))]) (rest := []) ca_L_114 hV9 (by decide) (by decide) hk hs (by decide) rfl rfl rfl rfl (by decide) dL_law_1023 (lkI (fun v9 μ1 hq1 => ?_))
  refine l_aload_n dL_law_1026 rfl ?_
  refine l_arg 1 hj (by omega) dL_law_1027 dL_law_1028 dL_law_1030 dL_law_1031 dL_law_1032 ?_
  refine l_callV (k := 10) (i := 0) (c := 10) (As := [.int (xs (6 * j + 1))]) (rest := [.int v9]) ca_L_117 hq1.2 (by decide) (by decide) hk hs (by decide) rfl rfl rfl rfl (Nat.le_of_ble_eq_true rfl) dL_law_1033 (lkI (fun v8 μ2 hq2 => ?_))
  exact l_icmp_eq (tgt := 1700) dL_law_1036 rfl (fun _ => kk μ2 hq2.2) (fun hne => absurd (hq1.1.trans hq2.1.symm) hne)
theorem lc_21 (hk : kc ≤ 601024) (hs : ks ≤ 7293034) (hj : 6 * j + 6 ≤ L) (hI : invS μ) (kk : ∀ μ', invS μ' → LG l D o b L xs Γ kc ks 1700 (lvL D o b (nI (6 * j))) [] μ' g) : LG l D o b L xs Γ kc ks 1041 (lvL D o b (nI (6 * j))) [] μ g := by
  refine l_aload_n dL_law_1041 rfl ?_
  refine l_arg 1 hj (by omega) dL_law_1042 dL_law_1043 dL_law_1045 dL_law_1046 dL_law_1047 ?_
  obtain ⟨V9, hV9⟩ := pr_needs (l := l) (D := D) (x1 := xs (6 * j + 1)) hI
  refine l_callV (k := 9) (i := 0) (c := 9) (As := [.int (xs (6 * j + 1))]) (rest := []) ca_L_118 hV9 (by decide) (by decide) hk hs (by decide) rfl rfl rfl rfl (by decide) dL_law_1048 (lkI (fun v9 μ1 hq1 => ?_))
  refine l_aload_n dL_law_1051 rfl ?_
  refine l_arg 1 hj (by omega) dL_law_1052 dL_law_1053 dL_law_1055 dL_law_1056 dL_law_1057 ?_
  refine l_callV (k := 10) (i := 0) (c := 10) (As := [.int (xs (6 * j + 1))]) (rest := [.int v9]) ca_L_121 hq1.2 (by decide) (by decide) hk hs (by decide) rfl rfl rfl rfl (Nat.le_of_ble_eq_true rfl) dL_law_1058 (lkI (fun v8 μ2 hq2 => ?_))
  exact l_icmp_eq (tgt := 1700) dL_law_1061 rfl (fun _ => kk μ2 hq2.2) (fun hne => absurd (hq1.1.trans hq2.1.symm) hne)
theorem lc_22 (hk : kc ≤ 601024) (hs : ks ≤ 7293034) (hj : 6 * j + 6 ≤ L) (hI : invS μ) (kk : ∀ μ', invS μ' → LG l D o b L xs Γ kc ks 1700 (lvL D o b (nI (6 * j))) [] μ' g) : LG l D o b L xs Γ kc ks 1066 (lvL D o b (nI (6 * j))) [] μ g := by
  refine l_aload_n dL_law_1066 rfl ?_
  refine l_arg 1 hj (by omega) dL_law_1067 dL_law_1068 dL_law_1070 dL_law_1071 dL_law_1072 ?_
  refine l_arg 2 hj (by omega) dL_law_1073 dL_law_1074 dL_law_1076 dL_law_1077 dL_law_1078 ?_
  obtain ⟨V9, hV9⟩ := pr_rests (l := l) (D := D) (x1 := xs (6 * j + 1)) (x2 := xs (6 * j + 2)) hI
  refine l_callV (k := 9) (i := 0) (c := 9) (As := [.int (xs (6 * j + 1)), .int (xs (6 * j + 2))]) (rest := []) ca_L_122 hV9 (by decide) (by decide) hk hs (by decide) rfl rfl rfl rfl (by decide) dL_law_1079 (lkI (fun v9 μ1 hq1 => ?_))
  refine l_aload_n dL_law_1082 rfl ?_
  refine l_arg 1 hj (by omega) dL_law_1083 dL_law_1084 dL_law_1086 dL_law_1087 dL_law_1088 ?_
  refine l_arg 2 hj (by omega) dL_law_1089 dL_law_1090 dL_law_1092 dL_law_1093 dL_law_1094 ?_
  refine l_callV (k := 10) (i := 0) (c := 10) (As := [.int (xs (6 * j + 1)), .int (xs (6 * j + 2))]) (rest := [.int v9]) ca_L_125 hq1.2 (by decide) (by decide) hk hs (by decide) rfl rfl rfl rfl (Nat.le_of_ble_eq_true rfl) dL_law_1095 (lkI (fun v8 μ2 hq2 => ?_))
  exact l_icmp_eq (tgt := 1700) dL_law_1098 rfl (fun _ => kk μ2 hq2.2) (fun hne => absurd (hq1.1.trans hq2.1.symm) hne)
theorem lc_23 (hk : kc ≤ 601024) (hs : ks ≤ 7293034) (hj : 6 * j + 6 ≤ L) (hI : invS μ) (kk : ∀ μ', invS μ' → LG l D o b L xs Γ kc ks 1700 (lvL D o b (nI (6 * j))) [] μ' g) : LG l D o b L xs Γ kc ks 1103 (lvL D o b (nI (6 * j))) [] μ g := by
  refine l_aload_n dL_law_1103 rfl ?_
  refine l_arg 1 hj (by omega) dL_law_1104 dL_law_1105 dL_law_1107 dL_law_1108 dL_law_1109 ?_
  refine l_arg 2 hj (by omega) dL_law_1110 dL_law_1111 dL_law_1113 dL_law_1114 dL_law_1115 ?_
  refine l_arg 3 hj (by omega) dL_law_1116 dL_law_1117 dL_law_1119 dL_law_1120 dL_law_1121 ?_
  obtain ⟨V9, hV9⟩ := pr_rest (l := l) (D := D) (x1 := xs (6 * j + 1)) (x2 := xs (6 * j + 2)) (x3 := xs (6 * j + 3)) hI
  refine l_callV (k := 9) (i := 0) (c := 9) (As := [.int (xs (6 * j + 1)), .int (xs (6 * j + 2)), .int (xs (6 * j + 3))]) (rest := []) ca_L_126 hV9 (by decide) (by decide) hk hs (by decide) rfl rfl rfl rfl (by decide) dL_law_1122 (lkI (fun v9 μ1 hq1 => ?_))
  refine l_aload_n dL_law_1125 rfl ?_
  refine l_arg 1 hj (by omega) dL_law_1126 dL_law_1127 dL_law_1129 dL_law_1130 dL_law_1131 ?_
  refine l_arg 2 hj (by omega) dL_law_1132 dL_law_1133 dL_law_1135 dL_law_1136 dL_law_1137 ?_
  refine l_arg 3 hj (by omega) dL_law_1138 dL_law_1139 dL_law_1141 dL_law_1142 dL_law_1143 ?_
  refine l_callV (k := 10) (i := 0) (c := 10) (As := [.int (xs (6 * j + 1)), .int (xs (6 * j + 2)), .int (xs (6 * j + 3))]) (rest := [.int v9]) ca_L_129 hq1.2 (by decide) (by decide) hk hs (by decide) rfl rfl rfl rfl (Nat.le_of_ble_eq_true rfl) dL_law_1144 (lkI (fun v8 μ2 hq2 => ?_))
  exact l_icmp_eq (tgt := 1700) dL_law_1147 rfl (fun _ => kk μ2 hq2.2) (fun hne => absurd (hq1.1.trans hq2.1.symm) hne)
theorem lc_24 (hk : kc ≤ 601024) (hs : ks ≤ 7293034) (hj : 6 * j + 6 ≤ L) (hI : invS μ) (kk : ∀ μ', invS μ' → LG l D o b L xs Γ kc ks 1700 (lvL D o b (nI (6 * j))) [] μ' g) : LG l D o b L xs Γ kc ks 1152 (lvL D o b (nI (6 * j))) [] μ g := by
  refine l_aload_n dL_law_1152 rfl ?_
  refine l_arg 1 hj (by omega) dL_law_1153 dL_law_1154 dL_law_1156 dL_law_1157 dL_law_1158 ?_
  obtain ⟨V9, hV9⟩ := pr_rank (l := l) (D := D) (x1 := xs (6 * j + 1)) hI
  refine l_callV (k := 9) (i := 0) (c := 9) (As := [.int (xs (6 * j + 1))]) (rest := []) ca_L_130 hV9 (by decide) (by decide) hk hs (by decide) rfl rfl rfl rfl (by decide) dL_law_1159 (lkI (fun v9 μ1 hq1 => ?_))
  refine l_aload_n dL_law_1162 rfl ?_
  refine l_arg 1 hj (by omega) dL_law_1163 dL_law_1164 dL_law_1166 dL_law_1167 dL_law_1168 ?_
  refine l_callV (k := 10) (i := 0) (c := 10) (As := [.int (xs (6 * j + 1))]) (rest := [.int v9]) ca_L_133 hq1.2 (by decide) (by decide) hk hs (by decide) rfl rfl rfl rfl (Nat.le_of_ble_eq_true rfl) dL_law_1169 (lkI (fun v8 μ2 hq2 => ?_))
  exact l_icmp_eq (tgt := 1700) dL_law_1172 rfl (fun _ => kk μ2 hq2.2) (fun hne => absurd (hq1.1.trans hq2.1.symm) hne)
theorem lc_25 (hk : kc ≤ 601024) (hs : ks ≤ 7293034) (hj : 6 * j + 6 ≤ L) (hI : invS μ) (kk : ∀ μ', invS μ' → LG l D o b L xs Γ kc ks 1700 (lvL D o b (nI (6 * j))) [] μ' g) : LG l D o b L xs Γ kc ks 1177 (lvL D o b (nI (6 * j))) [] μ g := by
  refine l_aload_n dL_law_1177 rfl ?_
  refine l_arg 1 hj (by omega) dL_law_1178 dL_law_1179 dL_law_1181 dL_law_1182 dL_law_1183 ?_
  refine l_arg 2 hj (by omega) dL_law_1184 dL_law_1185 dL_law_1187 dL_law_1188 dL_law_1189 ?_
  obtain ⟨V9, hV9⟩ := pr_falls (l := l) (D := D) (x1 := xs (6 * j + 1)) (x2 := xs (6 * j + 2)) hI
  refine l_callV (k := 9) (i := 0) (c := 9) (As := [.int (xs (6 * j + 1)), .int (xs (6 * j + 2))]) (rest := []) ca_L_134 hV9 (by decide) (by decide) hk hs (by decide) rfl rfl rfl rfl (by decide) dL_law_1190 (lkI (fun v9 μ1 hq1 => ?_))
  refine l_aload_n dL_law_1193 rfl ?_
  refine l_arg 1 hj (by omega) dL_law_1194 dL_law_1195 dL_law_1197 dL_law_1198 dL_law_1199 ?_
  refine l_arg 2 hj (by omega) dL_law_1200 dL_law_1201 dL_law_1203 dL_law_1204 dL_law_1205 ?_
  refine l_callV (k := 10) (i := 0) (c := 10) (As := [.int (xs (6 * j + 1)), .int (xs (6 * j + 2))]) (rest := [.int v9]) ca_L_137 hq1.2 (by decide) (by decide) hk hs (by decide) rfl rfl rfl rfl (Nat.le_of_ble_eq_true rfl) dL_law_1206 (lkI (fun v8 μ2 hq2 => ?_))
  exact l_icmp_eq (tgt := 1700) dL_law_1209 rfl (fun _ => kk μ2 hq2.2) (fun hne => absurd (hq1.1.trans hq2.1.symm) hne)
theorem lc_26 (hk : kc ≤ 601024) (hs : ks ≤ 7293034) (hj : 6 * j + 6 ≤ L) (hI : invS μ) (kk : ∀ μ', invS μ' → LG l D o b L xs Γ kc ks 1700 (lvL D o b (nI (6 * j))) [] μ' g) : LG l D o b L xs Γ kc ks 1214 (lvL D o b (nI (6 * j))) [] μ g := by
  refine l_aload_n dL_law_1214 rfl ?_
  refine l_arg 1 hj (by omega) dL_law_1215 dL_law_1216 dL_law_1218 dL_law_1219 dL_law_1220 ?_
  refine l_arg 2 hj (by omega) dL_law_1221 dL_law_1222 dL_law_1224 dL_law_1225 dL_law_1226 ?_
  refine l_arg 3 hj (by omega) dL_law_1227 dL_law_1228 dL_law_1230 dL_law_1231 dL_law_1232 ?_
  obtain ⟨V9, hV9⟩ := pr_earns (l := l) (D := D) (x1 := xs (6 * j + 1)) (x2 := xs (6 * j + 2)) (x3 := xs (6 * j + 3)) hI
  refine l_callV (k := 9) (i := 0) (c := 9) (As := [.int (xs (6 * j + 1)), .int (xs (6 * j + 2)), .int (xs (6 * j + 3))]) (rest := []) ca_L_138 hV9 (by decide) (by decide) hk hs (by decide) rfl rfl rfl rfl (by decide) dL_law_1233 (lkI (fun v9 μ1 hq1 => ?_))
  refine l_aload_n dL_law_1236 rfl ?_
  refine l_arg 1 hj (by omega) dL_law_1237 dL_law_1238 dL_law_1240 dL_law_1241 dL_law_1242 ?_
  refine l_arg 2 hj (by omega) dL_law_1243 dL_law_1244 dL_law_1246 dL_law_1247 dL_law_1248 ?_
  refine l_arg 3 hj (by omega) dL_law_1249 dL_law_1250 dL_law_1252 dL_law_1253 dL_law_1254 ?_
  refine l_callV (k := 10) (i := 0) (c := 10) (As := [.int (xs (6 * j + 1)), .int (xs (6 * j + 2)), .int (xs (6 * j + 3))]) (rest := [.int v9]) ca_L_141 hq1.2 (by decide) (by decide) hk hs (by decide) rfl rfl rfl rfl (Nat.le_of_ble_eq_true rfl) dL_law_1255 (lkI (fun v8 μ2 hq2 => ?_))
  exact l_icmp_eq (tgt := 1700) dL_law_1258 rfl (fun _ => kk μ2 hq2.2) (fun hne => absurd (hq1.1.trans hq2.1.symm) hne)
theorem lc_27 (hk : kc ≤ 601024) (hs : ks ≤ 7293034) (hj : 6 * j + 6 ≤ L) (hI : invS μ) (kk : ∀ μ', invS μ' → LG l D o b L xs Γ kc ks 1700 (lvL D o b (nI (6 * j))) [] μ' g) : LG l D o b L xs Γ kc ks 1263 (lvL D o b (nI (6 * j))) [] μ g := by
  refine l_aload_n dL_law_1263 rfl ?_
  refine l_arg 1 hj (by omega) dL_law_1264 dL_law_1265 dL_law_1267 dL_law_1268 dL_law_1269 ?_
  refine l_arg 2 hj (by omega) dL_law_1270 dL_law_1271 dL_law_1273 dL_law_1274 dL_law_1275 ?_
  obtain ⟨V9, hV9⟩ := pr_falseOnes (l := l) (D := D) (x1 := xs (6 * j + 1)) (x2 := xs (6 * j + 2)) hI
  refine l_callV (k := 9) (i := 0) (c := 9) (As := [.int (xs (6 * j + 1)), .int (xs (6 * j + 2))]) (rest := []) ca_L_142 hV9 (by decide) (by decide) hk hs (by decide) rfl rfl rfl rfl (by decide) dL_law_1276 (lkI (fun v9 μ1 hq1 => ?_))
  refine l_aload_n dL_law_1279 rfl ?_
  refine l_arg 1 hj (by omega) dL_law_1280 dL_law_1281 dL_law_1283 dL_law_1284 dL_law_1285 ?_
  refine l_arg 2 hj (by omega) dL_law_1286 dL_law_1287 dL_law_1289 dL_law_1290 dL_law_1291 ?_
  refine l_callV (k := 10) (i := 0) (c := 10) (As := [.int (xs (6 * j + 1)), .int (xs (6 * j + 2))]) (rest := [.int v9]) ca_L_145 hq1.2 (by decide) (by decide) hk hs (by decide) rfl rfl rfl rfl (Nat.le_of_ble_eq_true rfl) dL_law_1292 (lkI (fun v8 μ2 hq2 => ?_))
  exact l_icmp_eq (tgt := 1700) dL_law_1295 rfl (fun _ => kk μ2 hq2.2) (fun hne => absurd (hq1.1.trans hq2.1.symm) hne)
theorem lc_28 (hk : kc ≤ 601024) (hs : ks ≤ 7293034) (hj : 6 * j + 6 ≤ L) (hI : invS μ) (kk : ∀ μ', invS μ' → LG l D o b L xs Γ kc ks 1700 (lvL D o b (nI (6 * j))) [] μ' g) : LG l D o b L xs Γ kc ks 1300 (lvL D o b (nI (6 * j))) [] μ g := by
  refine l_aload_n dL_law_1300 rfl ?_
  refine l_arg 1 hj (by omega) dL_law_1301 dL_law_1302 dL_law_1304 dL_law_1305 dL_law_1306 ?_
  obtain ⟨V9, hV9⟩ := pr_habit (l := l) (D := D) (x1 := xs (6 * j + 1)) hI
  refine l_callV (k := 9) (i := 0) (c := 9) (As := [.int (xs (6 * j + 1))]) (rest := []) ca_L_146 hV9 (by decide) (by decide) hk hs (by decide) rfl rfl rfl rfl (by decide) dL_law_1307 (lkI (fun v9 μ1 hq1 => ?_))
  refine l_aload_n dL_law_1310 rfl ?_
  refine l_arg 1 hj (by omega) dL_law_1311 dL_law_1312 dL_law_1314 dL_law_1315 dL_law_1316 ?_
  refine l_callV (k := 10) (i := 0) (c := 10) (As := [.int (xs (6 * j + 1))]) (rest := [.int v9]) ca_L_149 hq1.2 (by decide) (by decide) hk hs (by decide) rfl rfl rfl rfl (Nat.le_of_ble_eq_true rfl) dL_law_1317 (lkI (fun v8 μ2 hq2 => ?_))
  exact l_icmp_eq (tgt := 1700) dL_law_1320 rfl (fun _ => kk μ2 hq2.2) (fun hne => absurd (hq1.1.trans hq2.1.symm) hne)
theorem lc_29 (hk : kc ≤ 601024) (hs : ks ≤ 7293034) (hj : 6 * j + 6 ≤ L) (hI : invS μ) (kk : ∀ μ', invS μ' → LG l D o b L xs Γ kc ks 1700 (lvL D o b (nI (6 * j))) [] μ' g) : LG l D o b L xs Γ kc ks 1325 (lvL D o b (nI (6 * j))) [] μ g := by
  refine l_aload_n dL_law_1325 rfl ?_
  refine l_arg 1 hj (by omega) dL_law_1326 dL_law_1327 dL_law_1329 dL_law_1330 dL_law_1331 ?_
  refine l_arg 2 hj (by omega) dL_law_1332 dL_law_1333 dL_law_1335 dL_law_1336 dL_law_1337 ?_
  obtain ⟨V9, hV9⟩ := pr_breaks (l := l) (D := D) (x1 := xs (6 * j + 1)) (x2 := xs (6 * j + 2)) hI
  refine l_callV (k := 9) (i := 0) (c := 9) (As := [.int (xs (6 * j + 1)), .int (xs (6 * j + 2))]) (rest := []) ca_L_150 hV9 (by decide) (by decide) hk hs (by decide) rfl rfl rfl rfl (by decide) dL_law_1338 (lkI (fun v9 μ1 hq1 => ?_))
  refine l_aload_n dL_law_1341 rfl ?_
  refine l_arg 1 hj (by omega) dL_law_1342 dL_law_1343 dL_law_1345 dL_law_1346 dL_law_1347 ?_
  refine l_arg 2 hj (by omega) dL_law_1348 dL_law_1349 dL_law_1351 dL_law_1352 dL_law_1353 ?_
  refine l_callV (k := 10) (i := 0) (c := 10) (As := [.int (xs (6 * j + 1)), .int (xs (6 * j + 2))]) (rest := [.int v9]) ca_L_153 hq1.2 (by decide) (by decide) hk hs (by decide) rfl rfl rfl rfl (Nat.le_of_ble_eq_true rfl) dL_law_1354 (lkI (fun v8 μ2 hq2 => ?_))
  exact l_icmp_eq (tgt := 1700) dL_law_1357 rfl (fun _ => kk μ2 hq2.2) (fun hne => absurd (hq1.1.trans hq2.1.symm) hne)
theorem lc_30 (hk : kc ≤ 601024) (hs : ks ≤ 7293034) (hj : 6 * j + 6 ≤ L) (hI : invS μ) (kk : ∀ μ', invS μ' → LG l D o b L xs Γ kc ks 1700 (lvL D o b (nI (6 * j))) [] μ' g) : LG l D o b L xs Γ kc ks 1362 (lvL D o b (nI (6 * j))) [] μ g := by
  refine l_aload_n dL_law_1362 rfl ?_
  refine l_arg 1 hj (by omega) dL_law_1363 dL_law_1364 dL_law_1366 dL_law_1367 dL_law_1368 ?_
  refine l_arg 2 hj (by omega) dL_law_1369 dL_law_1370 dL_law_1372 dL_law_1373 dL_law_1374 ?_
  refine l_arg 3 hj (by omega) dL_law_1375 dL_law_1376 dL_law_1378 dL_law_1379 dL_law_1380 ?_
  refine l_arg 4 hj (by omega) dL_law_1381 dL_law_1382 dL_law_1384 dL_law_1385 dL_law_1386 ?_
  refine l_bool dL_law_1387 dL_law_1390 dL_law_1391 dL_law_1394 ?_
  obtain ⟨V9, hV9⟩ := pr_note (l := l) (D := D) (x1 := xs (6 * j + 1)) (x2 := xs (6 * j + 2)) (x3 := xs (6 * j + 3)) (x4 := bZ9 (xs (6 * j + 4))) hI
  refine l_callV (k := 9) (i := 0) (c := 9) (As := [.int (xs (6 * j + 1)), .int (xs (6 * j + 2)), .int (xs (6 * j + 3)), .int (bZ9 (xs (6 * j + 4)))]) (rest := []) ca_L_154 hV9 (by decide) (by decide) hk hs (by decide) rfl rfl rfl rfl (by decide) dL_law_1395 (lkI (fun v9 μ1 hq1 => ?_))
  refine l_aload_n dL_law_1398 rfl ?_
  refine l_arg 1 hj (by omega) dL_law_1399 dL_law_1400 dL_law_1402 dL_law_1403 dL_law_1404 ?_
  refine l_arg 2 hj (by omega) dL_law_1405 dL_law_1406 dL_law_1408 dL_law_1409 dL_law_1410 ?_
  refine l_arg 3 hj (by omega) dL_law_1411 dL_law_1412 dL_law_1414 dL_law_1415 dL_law_1416 ?_
  refine l_arg 4 hj (by omega) dL_law_1417 dL_law_1418 dL_law_1420 dL_law_1421 dL_law_1422 ?_
  refine l_bool dL_law_1423 dL_law_1426 dL_law_1427 dL_law_1430 ?_
  refine l_callV (k := 10) (i := 0) (c := 10) (As := [.int (xs (6 * j + 1)), .int (xs (6 * j + 2)), .int (xs (6 * j + 3)), .int (bZ9 (xs (6 * j + 4)))]) (rest := [.int v9]) ca_L_158 hq1.2 (by decide) (by decide) hk hs (by decide) rfl rfl rfl rfl (Nat.le_of_ble_eq_true rfl) dL_law_1431 (lkI (fun v8 μ2 hq2 => ?_))
  exact l_icmp_eq (tgt := 1700) dL_law_1434 rfl (fun _ => kk μ2 hq2.2) (fun hne => absurd (hq1.1.trans hq2.1.symm) hne)
theorem lc_31 (hk : kc ≤ 601024) (hs : ks ≤ 7293034) (hj : 6 * j + 6 ≤ L) (hI : invS μ) (kk : ∀ μ', invS μ' → LG l D o b L xs Γ kc ks 1700 (lvL D o b (nI (6 * j))) [] μ' g) : LG l D o b L xs Γ kc ks 1439 (lvL D o b (nI (6 * j))) [] μ g := by
  refine l_aload_n dL_law_1439 rfl ?_
  refine l_arg 1 hj (by omega) dL_law_1440 dL_law_1441 dL_law_1443 dL_law_1444 dL_law_1445 ?_
  obtain ⟨V9, hV9⟩ := pr_out (l := l) (D := D) (x1 := xs (6 * j + 1)) hI
  refine l_callV (k := 9) (i := 0) (c := 9) (As := [.int (xs (6 * j + 1))]) (rest := []) ca_L_159 hV9 (by decide) (by decide) hk hs (by decide) rfl rfl rfl rfl (by decide) dL_law_1446 (lkI (fun v9 μ1 hq1 => ?_))
  refine l_aload_n dL_law_1449 rfl ?_
  refine l_arg 1 hj (by omega) dL_law_1450 dL_law_1451 dL_law_1453 dL_law_1454 dL_law_1455 ?_
  refine l_callV (k := 10) (i := 0) (c := 10) (As := [.int (xs (6 * j + 1))]) (rest := [.int v9]) ca_L_162 hq1.2 (by decide) (by decide) hk hs (by decide) rfl rfl rfl rfl (Nat.le_of_ble_eq_true rfl) dL_law_1456 (lkI (fun v8 μ2 hq2 => ?_))
  exact l_icmp_eq (tgt := 1700) dL_law_1459 rfl (fun _ => kk μ2 hq2.2) (fun hne => absurd (hq1.1.trans hq2.1.symm) hne)
theorem lc_32 (hk : kc ≤ 601024) (hs : ks ≤ 7293034) (hj : 6 * j + 6 ≤ L) (hI : invS μ) (kk : ∀ μ', invS μ' → LG l D o b L xs Γ kc ks 1700 (lvL D o b (nI (6 * j))) [] μ' g) : LG l D o b L xs Γ kc ks 1464 (lvL D o b (nI (6 * j))) [] μ g := by
  refine l_aload_n dL_law_1464 rfl ?_
  refine l_arg 1 hj (by omega) dL_law_1465 dL_law_1466 dL_law_1468 dL_law_1469 dL_law_1470 ?_
  obtain ⟨V9, hV9⟩ := pr_known (l := l) (D := D) (x1 := xs (6 * j + 1)) hI
  refine l_callV (k := 9) (i := 0) (c := 9) (As := [.int (xs (6 * j + 1))]) (rest := []) ca_L_163 hV9 (by decide) (by decide) hk hs (by decide) rfl rfl rfl rfl (by decide) dL_law_1471 (lkI (fun v9 μ1 hq1 => ?_))
  refine l_aload_n dL_law_1474 rfl ?_
  refine l_arg 1 hj (by omega) dL_law_1475 dL_law_1476 dL_law_1478 dL_law_1479 dL_law_1480 ?_
  refine l_callV (k := 10) (i := 0) (c := 10) (As := [.int (xs (6 * j + 1))]) (rest := [.int v9]) ca_L_167 hq1.2 (by decide) (by decide) hk hs (by decide) rfl rfl rfl rfl (Nat.le_of_ble_eq_true rfl) dL_law_1481 (lkI (fun v8 μ2 hq2 => ?_))
  exact l_icmp_eq (tgt := 1700) dL_law_1484 rfl (fun _ => kk μ2 hq2.2) (fun hne => absurd (hq1.1.trans hq2.1.symm) hne)
theorem lc_33 (hk : kc ≤ 601024) (hs : ks ≤ 7293034) (hj : 6 * j + 6 ≤ L) (hI : invS μ) (kk : ∀ μ', invS μ' → LG l D o b L xs Γ kc ks 1700 (lvL D o b (nI (6 * j))) [] μ' g) : LG l D o b L xs Γ kc ks 1489 (lvL D o b (nI (6 * j))) [] μ g := by
  refine l_aload_n dL_law_1489 rfl ?_
  refine l_arg 1 hj (by omega) dL_law_1490 dL_law_1491 dL_law_1493 dL_law_1494 dL_law_1495 ?_
  refine l_arg 2 hj (by omega) dL_law_1496 dL_law_1497 dL_law_1499 dL_law_1500 dL_law_1501 ?_
  obtain ⟨V9, hV9⟩ := pr_fits (l := l) (D := D) (x1 := xs (6 * j + 1)) (x2 := xs (6 * j + 2)) hI
  refine l_callV (k := 9) (i := 0) (c := 9) (As := [.int (xs (6 * j + 1)), .int (xs (6 * j + 2))]) (rest := []) ca_L_168 hV9 (by decide) (by decide) hk hs (by decide) rfl rfl rfl rfl (by decide) dL_law_1502 (lkI (fun v9 μ1 hq1 => ?_))
  refine l_aload_n dL_law_1505 rfl ?_
  refine l_arg 1 hj (by omega) dL_law_1506 dL_law_1507 dL_law_1509 dL_law_1510 dL_law_1511 ?_
  refine l_arg 2 hj (by omega) dL_law_1512 dL_law_1513 dL_law_1515 dL_law_1516 dL_law_1517 ?_
  refine l_callV (k := 10) (i := 0) (c := 10) (As := [.int (xs (6 * j + 1)), .int (xs (6 * j + 2))]) (rest := [.int v9]) ca_L_171 hq1.2 (by decide) (by decide) hk hs (by decide) rfl rfl rfl rfl (Nat.le_of_ble_eq_true rfl) dL_law_1518 (lkI (fun v8 μ2 hq2 => ?_))
  exact l_icmp_eq (tgt := 1700) dL_law_1521 rfl (fun _ => kk μ2 hq2.2) (fun hne => absurd (hq1.1.trans hq2.1.symm) hne)
theorem lc_34 (hk : kc ≤ 601024) (hs : ks ≤ 7293034) (hj : 6 * j + 6 ≤ L) (hI : invS μ) (kk : ∀ μ', invS μ' → LG l D o b L xs Γ kc ks 1700 (lvL D o b (nI (6 * j))) [] μ' g) : LG l D o b L xs Γ kc ks 1526 (lvL D o b (nI (6 * j))) [] μ g := by
  refine l_aload_n dL_law_1526 rfl ?_
  refine l_arg 1 hj (by omega) dL_law_1527 dL_law_1528 dL_law_1530 dL_law_1531 dL_law_1532 ?_
  refine l_arg 2 hj (by omega) dL_law_1533 dL_law_1534 dL_law_1536 dL_law_1537 dL_law_1538 ?_
  refine l_arg 3 hj (by omega) dL_law_1539 dL_law_1540 dL_law_1542 dL_law_1543 dL_law_1544 ?_
  refine l_arg 4 hj (by omega) dL_law_1545 dL_law_1546 dL_law_1548 dL_law_1549 dL_law_1550 ?_
  obtain ⟨V9, hV9⟩ := pr_chance (l := l) (D := D) (x1 := xs (6 * j + 1)) (x2 := xs (6 * j + 2)) (x3 := xs (6 * j + 3)) (x4 := xs (6 * j + 4)) hI
  refine l_callV (k := 9) (i := 0) (c := 9) (As := [.int (xs (6 * j + 1)), .int (xs (6 * j + 2)), .int (xs (6 * j + 3)), .int (xs (6 * j + 4))]) (rest := []) ca_L_172 hV9 (by decide) (by decide) hk hs (by decide) rfl rfl rfl rfl (by decide) dL_law_1551 (lkI (fun v9 μ1 hq1 => ?_))
  refine l_aload_n dL_law_1554 rfl ?_
  refine l_arg 1 hj (by omega) dL_law_1555 dL_law_1556 dL_law_1558 dL_law_1559 dL_law_1560 ?_
  refine l_arg 2 hj (by omega) dL_law_1561 dL_law_1562 dL_law_1564 dL_law_1565 dL_law_1566 ?_
  refine l_arg 3 hj (by omega) dL_law_1567 dL_law_1568 dL_law_1570 dL_law_1571 dL_law_1572 ?_
  refine l_arg 4 hj (by omega) dL_law_1573 dL_law_1574 dL_law_1576 dL_law_1577 dL_law_1578 ?_
  refine l_callV (k := 10) (i := 0) (c := 10) (As := [.int (xs (6 * j + 1)), .int (xs (6 * j + 2)), .int (xs (6 * j + 3)), .int (xs (6 * j + 4))]) (rest := [.int v9]) ca_L_176 hq1.2 (by decide) (by decide) hk hs (by decide) rfl rfl rfl rfl (Nat.le_of_ble_eq_true rfl) dL_law_1579 (lkI (fun v8 μ2 hq2 => ?_))
  exact l_icmp_eq (tgt := 1700) dL_law_1582 rfl (fun _ => kk μ2 hq2.2) (fun hne => absurd (hq1.1.trans hq2.1.symm) hne)
theorem lc_35 (hk : kc ≤ 601024) (hs : ks ≤ 7293034) (hj : 6 * j + 6 ≤ L) (hI : invS μ) (kk : ∀ μ', invS μ' → LG l D o b L xs Γ kc ks 1700 (lvL D o b (nI (6 * j))) [] μ' g) : LG l D o b L xs Γ kc ks 1587 (lvL D o b (nI (6 * j))) [] μ g := by
  refine l_aload_n dL_law_1587 rfl ?_
  refine l_arg 1 hj (by omega) dL_law_1588 dL_law_1589 dL_law_1591 dL_law_1592 dL_law_1593 ?_
  refine l_arg 2 hj (by omega) dL_law_1594 dL_law_1595 dL_law_1597 dL_law_1598 dL_law_1599 ?_
  refine l_arg 3 hj (by omega) dL_law_1600 dL_law_1601 dL_law_1603 dL_law_1604 dL_law_1605 ?_
  obtain ⟨V9, hV9⟩ := pr_tried (l := l) (D := D) (x1 := xs (6 * j + 1)) (x2 := xs (6 * j + 2)) (x3 := xs (6 * j + 3)) hI
  refine l_callV (k := 9) (i := 0) (c := 9) (As := [.int (xs (6 * j + 1)), .int (xs (6 * j + 2)), .int (xs (6 * j + 3))]) (rest := []) ca_L_177 hV9 (by decide) (by decide) hk hs (by decide) rfl rfl rfl rfl (by decide) dL_law_1606 (lkI (fun v9 μ1 hq1 => ?_))
  refine l_aload_n dL_law_1609 rfl ?_
  refine l_arg 1 hj (by omega) dL_law_1610 dL_law_1611 dL_law_1613 dL_law_1614 dL_law_1615 ?_
  refine l_arg 2 hj (by omega) dL_law_1616 dL_law_1617 dL_law_1619 dL_law_1620 dL_law_1621 ?_
  refine l_arg 3 hj (by omega) dL_law_1622 dL_law_1623 dL_law_1625 dL_law_1626 dL_law_1627 ?_
  refine l_callV (k := 10) (i := 0) (c := 10) (As := [.int (xs (6 * j + 1)), .int (xs (6 * j + 2)), .int (xs (6 * j + 3))]) (rest := [.int v9]) ca_L_180 hq1.2 (by decide) (by decide) hk hs (by decide) rfl rfl rfl rfl (Nat.le_of_ble_eq_true rfl) dL_law_1628 (lkI (fun v8 μ2 hq2 => ?_))
  exact l_icmp_eq (tgt := 1700) dL_law_1631 rfl (fun _ => kk μ2 hq2.2) (fun hne => absurd (hq1.1.trans hq2.1.symm) hne)
theorem lc_36 (hk : kc ≤ 601024) (hs : ks ≤ 7293034) (hj : 6 * j + 6 ≤ L) (hI : invS μ) (kk : ∀ μ', invS μ' → LG l D o b L xs Γ kc ks 1700 (lvL D o b (nI (6 * j))) [] μ' g) : LG l D o b L xs Γ kc ks 1636 (lvL D o b (nI (6 * j))) [] μ g := by
  refine l_aload_n dL_law_1636 rfl ?_
  obtain ⟨V9, hV9⟩ := pr_undo (l := l) (D := D) hI
  refine l_callV (k := 9) (i := 0) (c := 9) (As := []) (rest := []) ca_L_181 hV9 (by decide) (by decide) hk hs (by decide) rfl rfl rfl rfl (by decide) dL_law_1637 (lkI (fun v9 μ1 hq1 => ?_))
  refine l_aload_n dL_law_1640 rfl ?_
  refine l_callV (k := 10) (i := 0) (c := 10) (As := []) (rest := [.int v9]) ca_L_184 hq1.2 (by decide) (by decide) hk hs (by decide) rfl rfl rfl rfl (Nat.le_of_ble_eq_true rfl) dL_law_1641 (lkI (fun v8 μ2 hq2 => ?_))
  exact l_icmp_eq (tgt := 1700) dL_law_1644 rfl (fun _ => kk μ2 hq2.2) (fun hne => absurd (hq1.1.trans hq2.1.symm) hne)
theorem lc_37 (hk : kc ≤ 601024) (hs : ks ≤ 7293034) (hj : 6 * j + 6 ≤ L) (hI : invS μ) (kk : ∀ μ', invS μ' → LG l D o b L xs Γ kc ks 1700 (lvL D o b (nI (6 * j))) [] μ' g) : LG l D o b L xs Γ kc ks 1649 (lvL D o b (nI (6 * j))) [] μ g := by
  refine l_aload_n dL_law_1649 rfl ?_
  obtain ⟨V9, hV9⟩ := pr_keep (l := l) (D := D) hI
  refine l_callV (k := 9) (i := 0) (c := 9) (As := []) (rest := []) ca_L_185 hV9 (by decide) (by decide) hk hs (by decide) rfl rfl rfl rfl (by decide) dL_law_1650 (lkI (fun v9 μ1 hq1 => ?_))
  refine l_aload_n dL_law_1653 rfl ?_
  refine l_callV (k := 10) (i := 0) (c := 10) (As := []) (rest := [.int v9]) ca_L_188 hq1.2 (by decide) (by decide) hk hs (by decide) rfl rfl rfl rfl (Nat.le_of_ble_eq_true rfl) dL_law_1654 (lkI (fun v8 μ2 hq2 => ?_))
  exact l_icmp_eq (tgt := 1700) dL_law_1657 rfl (fun _ => kk μ2 hq2.2) (fun hne => absurd (hq1.1.trans hq2.1.symm) hne)
theorem lc_38 (hk : kc ≤ 601024) (hs : ks ≤ 7293034) (hj : 6 * j + 6 ≤ L) (hI : invS μ) (kk : ∀ μ', invS μ' → LG l D o b L xs Γ kc ks 1700 (lvL D o b (nI (6 * j))) [] μ' g) : LG l D o b L xs Γ kc ks 1662 (lvL D o b (nI (6 * j))) [] μ g := by
  refine l_aload_n dL_law_1662 rfl ?_
  obtain ⟨V9, hV9⟩ := pr_back (l := l) (D := D) hI
  refine l_callV (k := 9) (i := 0) (c := 9) (As := []) (rest := []) ca_L_189 hV9 (by decide) (by decide) hk hs (by decide) rfl rfl rfl rfl (by decide) dL_law_1663 (lkI (fun v9 μ1 hq1 => ?_))
  refine l_aload_n dL_law_1666 rfl ?_
  refine l_callV (k := 10) (i := 0) (c := 10) (As := []) (rest := [.int v9]) ca_L_192 hq1.2 (by decide) (by decide) hk hs (by decide) rfl rfl rfl rfl (Nat.le_of_ble_eq_true rfl) dL_law_1667 (lkI (fun v8 μ2 hq2 => ?_))
  exact l_icmp_eq (tgt := 1700) dL_law_1670 rfl (fun _ => kk μ2 hq2.2) (fun hne => absurd (hq1.1.trans hq2.1.symm) hne)
theorem lc_39 (hk : kc ≤ 601024) (hs : ks ≤ 7293034) (hj : 6 * j + 6 ≤ L) (hI : invS μ) (kk : ∀ μ', invS μ' → LG l D o b L xs Γ kc ks 1700 (lvL D o b (nI (6 * j))) [] μ' g) : LG l D o b L xs Γ kc ks 1675 (lvL D o b (nI (6 * j))) [] μ g := by
  refine l_aload_n dL_law_1675 rfl ?_
  refine l_arg 1 hj (by omega) dL_law_1676 dL_law_1677 dL_law_1679 dL_law_1680 dL_law_1681 ?_
  obtain ⟨V9, hV9⟩ := pr_count (l := l) (D := D) (x1 := xs (6 * j + 1)) hI
  refine l_callV (k := 9) (i := 0) (c := 9) (As := [.int (xs (6 * j + 1))]) (rest := []) ca_L_193 hV9 (by decide) (by decide) hk hs (by decide) rfl rfl rfl rfl (by decide) dL_law_1682 (lkI (fun v9 μ1 hq1 => ?_))
  refine l_aload_n dL_law_1685 rfl ?_
  refine l_arg 1 hj (by omega) dL_law_1686 dL_law_1687 dL_law_1689 dL_law_1690 dL_law_1691 ?_
  refine l_callV (k := 10) (i := 0) (c := 10) (As := [.int (xs (6 * j + 1))]) (rest := [.int v9]) ca_L_196 hq1.2 (by decide) (by decide) hk hs (by decide) rfl rfl rfl rfl (Nat.le_of_ble_eq_true rfl) dL_law_1692 (lkI (fun v8 μ2 hq2 => ?_))
  exact l_icmp_eq (tgt := 1700) dL_law_1695 rfl (fun _ => kk μ2 hq2.2) (fun hne => absurd (hq1.1.trans hq2.1.symm) hne)
end LCS
