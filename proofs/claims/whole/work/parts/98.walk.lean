/-! the law's body -/
def mL_law : pM := (cL_law, 4, some .boolean, 9, yL_law)
def LQ : Option pV → pG → Prop := fun v _ => v = some (vI 1)
abbrev EL (d : Nat) (X : pX) (pc : Nat) (loc stk : List pV) (g : pG) : Prop := Ev (Ex d) X mL_law LAY LQ pc loc stk LAY g
abbrev lwL (i : Nat) : List pV := [vX 1, vR 0, vR 45, vI (i : Nat)]
theorem lcmp_self (x : Int) : lcmpZ x x = 0 := by
  unfold lcmpZ
  rw [if_neg (Int.lt_irrefl x), if_pos rfl]
theorem lw_arg {d : Nat} {X : pX} {pc i k : Nat} {c : Int} {S : List pV} {g : pG} (d1 : decode mL_law.1 pc = .ok (.aload_n 0, 1)) (d2 : decode mL_law.1 (pc + 1) = .ok (.iload_n 3, 1)) (d3 : decode mL_law.1 (pc + 2) = .ok (.iconst c, 1)) (d4 : decode mL_law.1 (pc + 3) = .ok (.iadd, 1)) (d5 : decode mL_law.1 (pc + 4) = .ok (.iaload, 1)) (hc : c = (k : Int)) (hk : k ≤ 3) (hi : i + 4 ≤ X.1) (hX : X.1 ≤ 2048) (kk : EL d X (pc + 5) (lwL i) (vI (X.2 (i + k)) :: S) g) : EL d X pc (lwL i) S g := by
  subst hc
  have e : w32 ((i : Int) + (k : Int)) = ((i + k : Nat) : Int) := by rw [w32_of (by omega) (by omega)]; omega
  have hw : w32 (k : Int) = (k : Int) := w32_of (by omega) (by omega)
  refine wp_aload_n d1 rfl rfl (wp_iload_n (x := (i : Int)) d2 rfl (wp_iconst d3 hw (wp_iadd d4 ?_)))
  rw [e]
  refine wp_saload d5 rfl (by omega) (by omega) ?_
  rw [Int.toNat_natCast]
  exact kk
theorem lw_feed {d : Nat} {X : pX} {i : Nat} {g : pG} (hi : i + 4 ≤ X.1) (hX : X.1 ≤ 2048) (hp : PAIR d mX7_feed mX8_feed [vI (X.2 (i + 1))] g) (kk : ∀ g', BOTH g' → EL d X 1416 (lwL i) [] g') : EL d X 252 (lwL i) [] g := by
  obtain ⟨Rx, cx, hx⟩ := hp
  refine wp_aload_n dL_law_252 rfl rfl ?_
  refine lw_arg (k := 1) dL_law_253 dL_law_254 dL_law_255 dL_law_256 dL_law_257 rfl (by decide) hi hX ?_
  refine wp_callvI (As := [vI (X.2 (i + 1))]) dL_law_258 ml_9_13 (by decide) rfl L_0 (by decide) rfl (Nat.le_of_ble_eq_true rfl) rfl (Nat.le_refl _) (Nat.le_refl _) cx (fun x g1 h1 => ?_)
  obtain ⟨Rm, cm, hm⟩ := hx x g1 h1
  refine wp_aload_n dL_law_261 rfl rfl ?_
  refine lw_arg (k := 1) dL_law_262 dL_law_263 dL_law_264 dL_law_265 dL_law_266 rfl (by decide) hi hX ?_
  refine wp_callvI (As := [vI (X.2 (i + 1))]) dL_law_267 ml_9_17 (by decide) rfl L_45 (by decide) rfl (Nat.le_of_ble_eq_true rfl) rfl (Nat.le_refl _) (Nat.le_refl _) cm (fun z g2 h2 => ?_)
  obtain ⟨rfl, hB⟩ := hm z g2 h2
  exact wp_icmp_eq (tgt := 1416) dL_law_270 rfl (fun _ => kk g2 hB) (fun c => absurd rfl c)
theorem lw_caseOf {d : Nat} {X : pX} {i : Nat} {g : pG} (hi : i + 4 ≤ X.1) (hX : X.1 ≤ 2048) (hp : PAIR d mX7_caseOf mX8_caseOf [] g) (kk : ∀ g', BOTH g' → EL d X 1416 (lwL i) [] g') : EL d X 275 (lwL i) [] g := by
  obtain ⟨Rx, cx, hx⟩ := hp
  refine wp_aload_n dL_law_275 rfl rfl ?_
  refine wp_callvI (As := []) dL_law_276 ml_9_18 (by decide) rfl L_0 (by decide) rfl (Nat.le_of_ble_eq_true rfl) rfl (Nat.le_refl _) (Nat.le_refl _) cx (fun x g1 h1 => ?_)
  obtain ⟨Rm, cm, hm⟩ := hx x g1 h1
  refine wp_aload_n dL_law_279 rfl rfl ?_
  refine wp_callvI (As := []) dL_law_280 ml_9_22 (by decide) rfl L_45 (by decide) rfl (Nat.le_of_ble_eq_true rfl) rfl (Nat.le_refl _) (Nat.le_refl _) cm (fun z g2 h2 => ?_)
  obtain ⟨rfl, hB⟩ := hm z g2 h2
  exact wp_icmp_eq (tgt := 1416) dL_law_283 rfl (fun _ => kk g2 hB) (fun c => absurd rfl c)
theorem lw_court {d : Nat} {X : pX} {i : Nat} {g : pG} (hi : i + 4 ≤ X.1) (hX : X.1 ≤ 2048) (hp : PAIR d mX7_court mX8_court [vI (X.2 (i + 1)), vI (X.2 (i + 2))] g) (kk : ∀ g', BOTH g' → EL d X 1416 (lwL i) [] g') : EL d X 288 (lwL i) [] g := by
  obtain ⟨Rx, cx, hx⟩ := hp
  refine wp_aload_n dL_law_288 rfl rfl ?_
  refine lw_arg (k := 1) dL_law_289 dL_law_290 dL_law_291 dL_law_292 dL_law_293 rfl (by decide) hi hX ?_
  refine lw_arg (k := 2) dL_law_294 dL_law_295 dL_law_296 dL_law_297 dL_law_298 rfl (by decide) hi hX ?_
  refine wp_callvI (As := [vI (X.2 (i + 1)), vI (X.2 (i + 2))]) dL_law_299 ml_9_23 (by decide) rfl L_0 (by decide) rfl (Nat.le_of_ble_eq_true rfl) rfl (Nat.le_refl _) (Nat.le_refl _) cx (fun x g1 h1 => ?_)
  obtain ⟨Rm, cm, hm⟩ := hx x g1 h1
  refine wp_aload_n dL_law_302 rfl rfl ?_
  refine lw_arg (k := 1) dL_law_303 dL_law_304 dL_law_305 dL_law_306 dL_law_307 rfl (by decide) hi hX ?_
  refine lw_arg (k := 2) dL_law_308 dL_law_309 dL_law_310 dL_law_311 dL_law_312 rfl (by decide) hi hX ?_
  refine wp_callvI (As := [vI (X.2 (i + 1)), vI (X.2 (i + 2))]) dL_law_313 ml_9_27 (by decide) rfl L_45 (by decide) rfl (Nat.le_of_ble_eq_true rfl) rfl (Nat.le_refl _) (Nat.le_refl _) cm (fun z g2 h2 => ?_)
  obtain ⟨rfl, hB⟩ := hm z g2 h2
  exact wp_icmp_eq (tgt := 1416) dL_law_316 rfl (fun _ => kk g2 hB) (fun c => absurd rfl c)
theorem lw_point {d : Nat} {X : pX} {i : Nat} {g : pG} (hi : i + 4 ≤ X.1) (hX : X.1 ≤ 2048) (hp : PAIR d mX7_point mX8_point [vI (X.2 (i + 1)), vI (X.2 (i + 2))] g) (kk : ∀ g', BOTH g' → EL d X 1416 (lwL i) [] g') : EL d X 321 (lwL i) [] g := by
  obtain ⟨Rx, cx, hx⟩ := hp
  refine wp_aload_n dL_law_321 rfl rfl ?_
  refine lw_arg (k := 1) dL_law_322 dL_law_323 dL_law_324 dL_law_325 dL_law_326 rfl (by decide) hi hX ?_
  refine lw_arg (k := 2) dL_law_327 dL_law_328 dL_law_329 dL_law_330 dL_law_331 rfl (by decide) hi hX ?_
  refine wp_callvI (As := [vI (X.2 (i + 1)), vI (X.2 (i + 2))]) dL_law_332 ml_9_28 (by decide) rfl L_0 (by decide) rfl (Nat.le_of_ble_eq_true rfl) rfl (Nat.le_refl _) (Nat.le_refl _) cx (fun x g1 h1 => ?_)
  obtain ⟨Rm, cm, hm⟩ := hx x g1 h1
  refine wp_aload_n dL_law_335 rfl rfl ?_
  refine lw_arg (k := 1) dL_law_336 dL_law_337 dL_law_338 dL_law_339 dL_law_340 rfl (by decide) hi hX ?_
  refine lw_arg (k := 2) dL_law_341 dL_law_342 dL_law_343 dL_law_344 dL_law_345 rfl (by decide) hi hX ?_
  refine wp_callvI (As := [vI (X.2 (i + 1)), vI (X.2 (i + 2))]) dL_law_346 ml_9_31 (by decide) rfl L_45 (by decide) rfl (Nat.le_of_ble_eq_true rfl) rfl (Nat.le_refl _) (Nat.le_refl _) cm (fun z g2 h2 => ?_)
  obtain ⟨rfl, hB⟩ := hm z g2 h2
  exact wp_icmp_eq (tgt := 1416) dL_law_349 rfl (fun _ => kk g2 hB) (fun c => absurd rfl c)
theorem lw_kind {d : Nat} {X : pX} {i : Nat} {g : pG} (hi : i + 4 ≤ X.1) (hX : X.1 ≤ 2048) (hp : PAIR d mX7_kind mX8_kind [vI (X.2 (i + 1)), vI (X.2 (i + 2)), vI (X.2 (i + 3))] g) (kk : ∀ g', BOTH g' → EL d X 1416 (lwL i) [] g') : EL d X 354 (lwL i) [] g := by
  obtain ⟨Rx, cx, hx⟩ := hp
  refine wp_aload_n dL_law_354 rfl rfl ?_
  refine lw_arg (k := 1) dL_law_355 dL_law_356 dL_law_357 dL_law_358 dL_law_359 rfl (by decide) hi hX ?_
  refine lw_arg (k := 2) dL_law_360 dL_law_361 dL_law_362 dL_law_363 dL_law_364 rfl (by decide) hi hX ?_
  refine lw_arg (k := 3) dL_law_365 dL_law_366 dL_law_367 dL_law_368 dL_law_369 rfl (by decide) hi hX ?_
  refine wp_callvI (As := [vI (X.2 (i + 1)), vI (X.2 (i + 2)), vI (X.2 (i + 3))]) dL_law_370 ml_9_32 (by decide) rfl L_0 (by decide) rfl (Nat.le_of_ble_eq_true rfl) rfl (Nat.le_refl _) (Nat.le_refl _) cx (fun x g1 h1 => ?_)
  obtain ⟨Rm, cm, hm⟩ := hx x g1 h1
  refine wp_aload_n dL_law_373 rfl rfl ?_
  refine lw_arg (k := 1) dL_law_374 dL_law_375 dL_law_376 dL_law_377 dL_law_378 rfl (by decide) hi hX ?_
  refine lw_arg (k := 2) dL_law_379 dL_law_380 dL_law_381 dL_law_382 dL_law_383 rfl (by decide) hi hX ?_
  refine lw_arg (k := 3) dL_law_384 dL_law_385 dL_law_386 dL_law_387 dL_law_388 rfl (by decide) hi hX ?_
  refine wp_callvI (As := [vI (X.2 (i + 1)), vI (X.2 (i + 2)), vI (X.2 (i + 3))]) dL_law_389 ml_9_36 (by decide) rfl L_45 (by decide) rfl (Nat.le_of_ble_eq_true rfl) rfl (Nat.le_refl _) (Nat.le_refl _) cm (fun z g2 h2 => ?_)
  obtain ⟨rfl, hB⟩ := hm z g2 h2
  exact wp_icmp_eq (tgt := 1416) dL_law_392 rfl (fun _ => kk g2 hB) (fun c => absurd rfl c)
theorem lw_lowest {d : Nat} {X : pX} {i : Nat} {g : pG} (hi : i + 4 ≤ X.1) (hX : X.1 ≤ 2048) (hp : PAIR d mX7_lowest mX8_lowest [vI (X.2 (i + 1)), vI (X.2 (i + 2)), vI (X.2 (i + 3))] g) (kk : ∀ g', BOTH g' → EL d X 1416 (lwL i) [] g') : EL d X 397 (lwL i) [] g := by
  obtain ⟨Rx, cx, hx⟩ := hp
  refine wp_aload_n dL_law_397 rfl rfl ?_
  refine lw_arg (k := 1) dL_law_398 dL_law_399 dL_law_400 dL_law_401 dL_law_402 rfl (by decide) hi hX ?_
  refine lw_arg (k := 2) dL_law_403 dL_law_404 dL_law_405 dL_law_406 dL_law_407 rfl (by decide) hi hX ?_
  refine lw_arg (k := 3) dL_law_408 dL_law_409 dL_law_410 dL_law_411 dL_law_412 rfl (by decide) hi hX ?_
  refine wp_callvI (As := [vI (X.2 (i + 1)), vI (X.2 (i + 2)), vI (X.2 (i + 3))]) dL_law_413 ml_9_37 (by decide) rfl L_0 (by decide) rfl (Nat.le_of_ble_eq_true rfl) rfl (Nat.le_refl _) (Nat.le_refl _) cx (fun x g1 h1 => ?_)
  obtain ⟨Rm, cm, hm⟩ := hx x g1 h1
  refine wp_aload_n dL_law_416 rfl rfl ?_
  refine lw_arg (k := 1) dL_law_417 dL_law_418 dL_law_419 dL_law_420 dL_law_421 rfl (by decide) hi hX ?_
  refine lw_arg (k := 2) dL_law_422 dL_law_423 dL_law_424 dL_law_425 dL_law_426 rfl (by decide) hi hX ?_
  refine lw_arg (k := 3) dL_law_427 dL_law_428 dL_law_429 dL_law_430 dL_law_431 rfl (by decide) hi hX ?_
  refine wp_callvI (As := [vI (X.2 (i + 1)), vI (X.2 (i + 2)), vI (X.2 (i + 3))]) dL_law_432 ml_9_40 (by decide) rfl L_45 (by decide) rfl (Nat.le_of_ble_eq_true rfl) rfl (Nat.le_refl _) (Nat.le_refl _) cm (fun z g2 h2 => ?_)
  obtain ⟨rfl, hB⟩ := hm z g2 h2
  exact wp_icmp_eq (tgt := 1416) dL_law_435 rfl (fun _ => kk g2 hB) (fun c => absurd rfl c)
theorem lw_set {d : Nat} {X : pX} {i : Nat} {g : pG} (hi : i + 4 ≤ X.1) (hX : X.1 ≤ 2048) (hp : PAIR d mX7_set mX8_set [vI (X.2 (i + 1)), vI (X.2 (i + 2))] g) (kk : ∀ g', BOTH g' → EL d X 1416 (lwL i) [] g') : EL d X 440 (lwL i) [] g := by
  obtain ⟨Rx, cx, hx⟩ := hp
  refine wp_aload_n dL_law_440 rfl rfl ?_
  refine lw_arg (k := 1) dL_law_441 dL_law_442 dL_law_443 dL_law_444 dL_law_445 rfl (by decide) hi hX ?_
  refine lw_arg (k := 2) dL_law_446 dL_law_447 dL_law_448 dL_law_449 dL_law_450 rfl (by decide) hi hX ?_
  refine wp_callvI (As := [vI (X.2 (i + 1)), vI (X.2 (i + 2))]) dL_law_451 ml_9_41 (by decide) rfl L_0 (by decide) rfl (Nat.le_of_ble_eq_true rfl) rfl (Nat.le_refl _) (Nat.le_refl _) cx (fun x g1 h1 => ?_)
  obtain ⟨Rm, cm, hm⟩ := hx x g1 h1
  refine wp_aload_n dL_law_454 rfl rfl ?_
  refine lw_arg (k := 1) dL_law_455 dL_law_456 dL_law_457 dL_law_458 dL_law_459 rfl (by decide) hi hX ?_
  refine lw_arg (k := 2) dL_law_460 dL_law_461 dL_law_462 dL_law_463 dL_law_464 rfl (by decide) hi hX ?_
  refine wp_callvI (As := [vI (X.2 (i + 1)), vI (X.2 (i + 2))]) dL_law_465 ml_9_44 (by decide) rfl L_45 (by decide) rfl (Nat.le_of_ble_eq_true rfl) rfl (Nat.le_refl _) (Nat.le_refl _) cm (fun z g2 h2 => ?_)
  obtain ⟨rfl, hB⟩ := hm z g2 h2
  exact wp_icmp_eq (tgt := 1416) dL_law_468 rfl (fun _ => kk g2 hB) (fun c => absurd rfl c)
theorem lw_back {d : Nat} {X : pX} {i : Nat} {g : pG} (hi : i + 4 ≤ X.1) (hX : X.1 ≤ 2048) (hp : PAIR d mX7_back mX8_back [] g) (kk : ∀ g', BOTH g' → EL d X 1416 (lwL i) [] g') : EL d X 473 (lwL i) [] g := by
  obtain ⟨Rx, cx, hx⟩ := hp
  refine wp_aload_n dL_law_473 rfl rfl ?_
  refine wp_callvI (As := []) dL_law_474 ml_9_45 (by decide) rfl L_0 (by decide) rfl (Nat.le_of_ble_eq_true rfl) rfl (Nat.le_refl _) (Nat.le_refl _) cx (fun x g1 h1 => ?_)
  obtain ⟨Rm, cm, hm⟩ := hx x g1 h1
  refine wp_aload_n dL_law_477 rfl rfl ?_
  refine wp_callvI (As := []) dL_law_478 ml_9_48 (by decide) rfl L_45 (by decide) rfl (Nat.le_of_ble_eq_true rfl) rfl (Nat.le_refl _) (Nat.le_refl _) cm (fun z g2 h2 => ?_)
  obtain ⟨rfl, hB⟩ := hm z g2 h2
  exact wp_icmp_eq (tgt := 1416) dL_law_481 rfl (fun _ => kk g2 hB) (fun c => absurd rfl c)
theorem lw_down {d : Nat} {X : pX} {i : Nat} {g : pG} (hi : i + 4 ≤ X.1) (hX : X.1 ≤ 2048) (hp : PAIR d mX7_down mX8_down [vI (X.2 (i + 1)), vI (X.2 (i + 2))] g) (kk : ∀ g', BOTH g' → EL d X 1416 (lwL i) [] g') : EL d X 486 (lwL i) [] g := by
  obtain ⟨Rx, cx, hx⟩ := hp
  refine wp_aload_n dL_law_486 rfl rfl ?_
  refine lw_arg (k := 1) dL_law_487 dL_law_488 dL_law_489 dL_law_490 dL_law_491 rfl (by decide) hi hX ?_
  refine lw_arg (k := 2) dL_law_492 dL_law_493 dL_law_494 dL_law_495 dL_law_496 rfl (by decide) hi hX ?_
  refine wp_callvI (As := [vI (X.2 (i + 1)), vI (X.2 (i + 2))]) dL_law_497 ml_9_49 (by decide) rfl L_0 (by decide) rfl (Nat.le_of_ble_eq_true rfl) rfl (Nat.le_refl _) (Nat.le_refl _) cx (fun x g1 h1 => ?_)
  obtain ⟨Rm, cm, hm⟩ := hx x g1 h1
  refine wp_aload_n dL_law_500 rfl rfl ?_
  refine lw_arg (k := 1) dL_law_501 dL_law_502 dL_law_503 dL_law_504 dL_law_505 rfl (by decide) hi hX ?_
  refine lw_arg (k := 2) dL_law_506 dL_law_507 dL_law_508 dL_law_509 dL_law_510 rfl (by decide) hi hX ?_
  refine wp_callvI (As := [vI (X.2 (i + 1)), vI (X.2 (i + 2))]) dL_law_511 ml_9_52 (by decide) rfl L_45 (by decide) rfl (Nat.le_of_ble_eq_true rfl) rfl (Nat.le_refl _) (Nat.le_refl _) cm (fun z g2 h2 => ?_)
  obtain ⟨rfl, hB⟩ := hm z g2 h2
  exact wp_icmp_eq (tgt := 1416) dL_law_514 rfl (fun _ => kk g2 hB) (fun c => absurd rfl c)
theorem lw_turns {d : Nat} {X : pX} {i : Nat} {g : pG} (hi : i + 4 ≤ X.1) (hX : X.1 ≤ 2048) (hp : PAIR d mX7_turns mX8_turns [vI (X.2 (i + 1))] g) (kk : ∀ g', BOTH g' → EL d X 1416 (lwL i) [] g') : EL d X 519 (lwL i) [] g := by
  obtain ⟨Rx, cx, hx⟩ := hp
  refine wp_aload_n dL_law_519 rfl rfl ?_
  refine lw_arg (k := 1) dL_law_520 dL_law_521 dL_law_522 dL_law_523 dL_law_524 rfl (by decide) hi hX ?_
  refine wp_callvI (As := [vI (X.2 (i + 1))]) dL_law_525 ml_9_53 (by decide) rfl L_0 (by decide) rfl (Nat.le_of_ble_eq_true rfl) rfl (Nat.le_refl _) (Nat.le_refl _) cx (fun x g1 h1 => ?_)
  obtain ⟨Rm, cm, hm⟩ := hx x g1 h1
  refine wp_aload_n dL_law_528 rfl rfl ?_
  refine lw_arg (k := 1) dL_law_529 dL_law_530 dL_law_531 dL_law_532 dL_law_533 rfl (by decide) hi hX ?_
  refine wp_callvI (As := [vI (X.2 (i + 1))]) dL_law_534 ml_9_56 (by decide) rfl L_45 (by decide) rfl (Nat.le_of_ble_eq_true rfl) rfl (Nat.le_refl _) (Nat.le_refl _) cm (fun z g2 h2 => ?_)
  obtain ⟨rfl, hB⟩ := hm z g2 h2
  exact wp_icmp_eq (tgt := 1416) dL_law_537 rfl (fun _ => kk g2 hB) (fun c => absurd rfl c)
theorem lw_costs {d : Nat} {X : pX} {i : Nat} {g : pG} (hi : i + 4 ≤ X.1) (hX : X.1 ≤ 2048) (hp : PAIR d mX7_costs mX8_costs [vI (X.2 (i + 1))] g) (kk : ∀ g', BOTH g' → EL d X 1416 (lwL i) [] g') : EL d X 542 (lwL i) [] g := by
  obtain ⟨Rx, cx, hx⟩ := hp
  refine wp_aload_n dL_law_542 rfl rfl ?_
  refine lw_arg (k := 1) dL_law_543 dL_law_544 dL_law_545 dL_law_546 dL_law_547 rfl (by decide) hi hX ?_
  refine wp_callvI (As := [vI (X.2 (i + 1))]) dL_law_548 ml_9_57 (by decide) rfl L_0 (by decide) rfl (Nat.le_of_ble_eq_true rfl) rfl (Nat.le_refl _) (Nat.le_refl _) cx (fun x g1 h1 => ?_)
  obtain ⟨Rm, cm, hm⟩ := hx x g1 h1
  refine wp_aload_n dL_law_551 rfl rfl ?_
  refine lw_arg (k := 1) dL_law_552 dL_law_553 dL_law_554 dL_law_555 dL_law_556 rfl (by decide) hi hX ?_
  refine wp_callvI (As := [vI (X.2 (i + 1))]) dL_law_557 ml_9_60 (by decide) rfl L_45 (by decide) rfl (Nat.le_of_ble_eq_true rfl) rfl (Nat.le_refl _) (Nat.le_refl _) cm (fun z g2 h2 => ?_)
  obtain ⟨rfl, hB⟩ := hm z g2 h2
  exact wp_icmp_eq (tgt := 1416) dL_law_560 rfl (fun _ => kk g2 hB) (fun c => absurd rfl c)
theorem lw_up {d : Nat} {X : pX} {i : Nat} {g : pG} (hi : i + 4 ≤ X.1) (hX : X.1 ≤ 2048) (hp : PAIR d mX7_up mX8_up [] g) (kk : ∀ g', BOTH g' → EL d X 1416 (lwL i) [] g') : EL d X 565 (lwL i) [] g := by
  obtain ⟨Rx, cx, hx⟩ := hp
  refine wp_aload_n dL_law_565 rfl rfl ?_
  refine wp_callvI (As := []) dL_law_566 ml_9_61 (by decide) rfl L_0 (by decide) rfl (Nat.le_of_ble_eq_true rfl) rfl (Nat.le_refl _) (Nat.le_refl _) cx (fun x g1 h1 => ?_)
  obtain ⟨Rm, cm, hm⟩ := hx x g1 h1
  refine wp_aload_n dL_law_569 rfl rfl ?_
  refine wp_callvI (As := []) dL_law_570 ml_9_64 (by decide) rfl L_45 (by decide) rfl (Nat.le_of_ble_eq_true rfl) rfl (Nat.le_refl _) (Nat.le_refl _) cm (fun z g2 h2 => ?_)
  obtain ⟨rfl, hB⟩ := hm z g2 h2
  exact wp_icmp_eq (tgt := 1416) dL_law_573 rfl (fun _ => kk g2 hB) (fun c => absurd rfl c)
theorem lw_round {d : Nat} {X : pX} {i : Nat} {g : pG} (hi : i + 4 ≤ X.1) (hX : X.1 ≤ 2048) (hp : PAIR d mX7_round mX8_round [vI (X.2 (i + 1))] g) (kk : ∀ g', BOTH g' → EL d X 1416 (lwL i) [] g') : EL d X 578 (lwL i) [] g := by
  obtain ⟨Rx, cx, hx⟩ := hp
  refine wp_aload_n dL_law_578 rfl rfl ?_
  refine lw_arg (k := 1) dL_law_579 dL_law_580 dL_law_581 dL_law_582 dL_law_583 rfl (by decide) hi hX ?_
  refine wp_callvI (As := [vI (X.2 (i + 1))]) dL_law_584 ml_9_65 (by decide) rfl L_0 (by decide) rfl (Nat.le_of_ble_eq_true rfl) rfl (Nat.le_refl _) (Nat.le_refl _) cx (fun x g1 h1 => ?_)
  obtain ⟨Rm, cm, hm⟩ := hx x g1 h1
  refine wp_aload_n dL_law_587 rfl rfl ?_
  refine lw_arg (k := 1) dL_law_588 dL_law_589 dL_law_590 dL_law_591 dL_law_592 rfl (by decide) hi hX ?_
  refine wp_callvI (As := [vI (X.2 (i + 1))]) dL_law_593 ml_9_68 (by decide) rfl L_45 (by decide) rfl (Nat.le_of_ble_eq_true rfl) rfl (Nat.le_refl _) (Nat.le_refl _) cm (fun z g2 h2 => ?_)
  obtain ⟨rfl, hB⟩ := hm z g2 h2
  exact wp_icmp_eq (tgt := 1416) dL_law_596 rfl (fun _ => kk g2 hB) (fun c => absurd rfl c)
theorem lw_appeals {d : Nat} {X : pX} {i : Nat} {g : pG} (hi : i + 4 ≤ X.1) (hX : X.1 ≤ 2048) (hp : PAIR d mX7_appeals mX8_appeals [vI (X.2 (i + 1))] g) (kk : ∀ g', BOTH g' → EL d X 1416 (lwL i) [] g') : EL d X 601 (lwL i) [] g := by
  obtain ⟨Rx, cx, hx⟩ := hp
  refine wp_aload_n dL_law_601 rfl rfl ?_
  refine lw_arg (k := 1) dL_law_602 dL_law_603 dL_law_604 dL_law_605 dL_law_606 rfl (by decide) hi hX ?_
  refine wp_callvI (As := [vI (X.2 (i + 1))]) dL_law_607 ml_9_69 (by decide) rfl L_0 (by decide) rfl (Nat.le_of_ble_eq_true rfl) rfl (Nat.le_refl _) (Nat.le_refl _) cx (fun x g1 h1 => ?_)
  obtain ⟨Rm, cm, hm⟩ := hx x g1 h1
  refine wp_aload_n dL_law_610 rfl rfl ?_
  refine lw_arg (k := 1) dL_law_611 dL_law_612 dL_law_613 dL_law_614 dL_law_615 rfl (by decide) hi hX ?_
  refine wp_callvI (As := [vI (X.2 (i + 1))]) dL_law_616 ml_9_72 (by decide) rfl L_45 (by decide) rfl (Nat.le_of_ble_eq_true rfl) rfl (Nat.le_refl _) (Nat.le_refl _) cm (fun z g2 h2 => ?_)
  obtain ⟨rfl, hB⟩ := hm z g2 h2
  exact wp_icmp_eq (tgt := 1416) dL_law_619 rfl (fun _ => kk g2 hB) (fun c => absurd rfl c)
theorem lw_press {d : Nat} {X : pX} {i : Nat} {g : pG} (hi : i + 4 ≤ X.1) (hX : X.1 ≤ 2048) (hp : PAIR d mX7_press mX8_press [vI (X.2 (i + 1))] g) (kk : ∀ g', BOTH g' → EL d X 1416 (lwL i) [] g') : EL d X 624 (lwL i) [] g := by
  obtain ⟨Rx, cx, hx⟩ := hp
  refine wp_aload_n dL_law_624 rfl rfl ?_
  refine lw_arg (k := 1) dL_law_625 dL_law_626 dL_law_627 dL_law_628 dL_law_629 rfl (by decide) hi hX ?_
  refine wp_callvI (As := [vI (X.2 (i + 1))]) dL_law_630 ml_9_73 (by decide) rfl L_0 (by decide) rfl (Nat.le_of_ble_eq_true rfl) rfl (Nat.le_refl _) (Nat.le_refl _) cx (fun x g1 h1 => ?_)
  obtain ⟨Rm, cm, hm⟩ := hx x g1 h1
  refine wp_aload_n dL_law_633 rfl rfl ?_
  refine lw_arg (k := 1) dL_law_634 dL_law_635 dL_law_636 dL_law_637 dL_law_638 rfl (by decide) hi hX ?_
  refine wp_callvI (As := [vI (X.2 (i + 1))]) dL_law_639 ml_9_76 (by decide) rfl L_45 (by decide) rfl (Nat.le_of_ble_eq_true rfl) rfl (Nat.le_refl _) (Nat.le_refl _) cm (fun z g2 h2 => ?_)
  obtain ⟨rfl, hB⟩ := hm z g2 h2
  exact wp_icmp_eq (tgt := 1416) dL_law_642 rfl (fun _ => kk g2 hB) (fun c => absurd rfl c)
theorem lw_turnsBy {d : Nat} {X : pX} {i : Nat} {g : pG} (hi : i + 4 ≤ X.1) (hX : X.1 ≤ 2048) (hp : PAIR d mX7_turnsBy mX8_turnsBy [vI (X.2 (i + 1)), vI (X.2 (i + 2))] g) (kk : ∀ g', BOTH g' → EL d X 1416 (lwL i) [] g') : EL d X 647 (lwL i) [] g := by
  obtain ⟨Rx, cx, hx⟩ := hp
  refine wp_aload_n dL_law_647 rfl rfl ?_
  refine lw_arg (k := 1) dL_law_648 dL_law_649 dL_law_650 dL_law_651 dL_law_652 rfl (by decide) hi hX ?_
  refine lw_arg (k := 2) dL_law_653 dL_law_654 dL_law_655 dL_law_656 dL_law_657 rfl (by decide) hi hX ?_
  refine wp_callvI (As := [vI (X.2 (i + 1)), vI (X.2 (i + 2))]) dL_law_658 ml_9_77 (by decide) rfl L_0 (by decide) rfl (Nat.le_of_ble_eq_true rfl) rfl (Nat.le_refl _) (Nat.le_refl _) cx (fun x g1 h1 => ?_)
  obtain ⟨Rm, cm, hm⟩ := hx x g1 h1
  refine wp_aload_n dL_law_661 rfl rfl ?_
  refine lw_arg (k := 1) dL_law_662 dL_law_663 dL_law_664 dL_law_665 dL_law_666 rfl (by decide) hi hX ?_
  refine lw_arg (k := 2) dL_law_667 dL_law_668 dL_law_669 dL_law_670 dL_law_671 rfl (by decide) hi hX ?_
  refine wp_callvI (As := [vI (X.2 (i + 1)), vI (X.2 (i + 2))]) dL_law_672 ml_9_80 (by decide) rfl L_45 (by decide) rfl (Nat.le_of_ble_eq_true rfl) rfl (Nat.le_refl _) (Nat.le_refl _) cm (fun z g2 h2 => ?_)
  obtain ⟨rfl, hB⟩ := hm z g2 h2
  exact wp_icmp_eq (tgt := 1416) dL_law_675 rfl (fun _ => kk g2 hB) (fun c => absurd rfl c)
theorem lw_standsFast {d : Nat} {X : pX} {i : Nat} {g : pG} (hi : i + 4 ≤ X.1) (hX : X.1 ≤ 2048) (hp : PAIR d mX7_standsFast mX8_standsFast [] g) (kk : ∀ g', BOTH g' → EL d X 1416 (lwL i) [] g') : EL d X 680 (lwL i) [] g := by
  obtain ⟨Rx, cx, hx⟩ := hp
  refine wp_aload_n dL_law_680 rfl rfl ?_
  refine wp_callvI (As := []) dL_law_681 ml_9_81 (by decide) rfl L_0 (by decide) rfl (Nat.le_of_ble_eq_true rfl) rfl (Nat.le_refl _) (Nat.le_refl _) cx (fun x g1 h1 => ?_)
  obtain ⟨Rm, cm, hm⟩ := hx x g1 h1
  refine wp_aload_n dL_law_684 rfl rfl ?_
  refine wp_callvI (As := []) dL_law_685 ml_9_84 (by decide) rfl L_45 (by decide) rfl (Nat.le_of_ble_eq_true rfl) rfl (Nat.le_refl _) (Nat.le_refl _) cm (fun z g2 h2 => ?_)
  obtain ⟨rfl, hB⟩ := hm z g2 h2
  exact wp_icmp_eq (tgt := 1416) dL_law_688 rfl (fun _ => kk g2 hB) (fun c => absurd rfl c)
theorem lw_survive {d : Nat} {X : pX} {i : Nat} {g : pG} (hi : i + 4 ≤ X.1) (hX : X.1 ≤ 2048) (hp : PAIR d mX7_survive mX8_survive [vI (X.2 (i + 1))] g) (kk : ∀ g', BOTH g' → EL d X 1416 (lwL i) [] g') : EL d X 693 (lwL i) [] g := by
  obtain ⟨Rx, cx, hx⟩ := hp
  refine wp_aload_n dL_law_693 rfl rfl ?_
  refine lw_arg (k := 1) dL_law_694 dL_law_695 dL_law_696 dL_law_697 dL_law_698 rfl (by decide) hi hX ?_
  refine wp_callvI (As := [vI (X.2 (i + 1))]) dL_law_699 ml_9_85 (by decide) rfl L_0 (by decide) rfl (Nat.le_of_ble_eq_true rfl) rfl (Nat.le_refl _) (Nat.le_refl _) cx (fun x g1 h1 => ?_)
  obtain ⟨Rm, cm, hm⟩ := hx x g1 h1
  refine wp_aload_n dL_law_702 rfl rfl ?_
  refine lw_arg (k := 1) dL_law_703 dL_law_704 dL_law_705 dL_law_706 dL_law_707 rfl (by decide) hi hX ?_
  refine wp_callvI (As := [vI (X.2 (i + 1))]) dL_law_708 ml_9_88 (by decide) rfl L_45 (by decide) rfl (Nat.le_of_ble_eq_true rfl) rfl (Nat.le_refl _) (Nat.le_refl _) cm (fun z g2 h2 => ?_)
  obtain ⟨rfl, hB⟩ := hm z g2 h2
  exact wp_icmp_eq (tgt := 1416) dL_law_711 rfl (fun _ => kk g2 hB) (fun c => absurd rfl c)
theorem lw_fits {d : Nat} {X : pX} {i : Nat} {g : pG} (hi : i + 4 ≤ X.1) (hX : X.1 ≤ 2048) (hp : PAIR d mX7_fits mX8_fits [vI (X.2 (i + 1))] g) (kk : ∀ g', BOTH g' → EL d X 1416 (lwL i) [] g') : EL d X 716 (lwL i) [] g := by
  obtain ⟨Rx, cx, hx⟩ := hp
  refine wp_aload_n dL_law_716 rfl rfl ?_
  refine lw_arg (k := 1) dL_law_717 dL_law_718 dL_law_719 dL_law_720 dL_law_721 rfl (by decide) hi hX ?_
  refine wp_callvI (As := [vI (X.2 (i + 1))]) dL_law_722 ml_9_89 (by decide) rfl L_0 (by decide) rfl (Nat.le_of_ble_eq_true rfl) rfl (Nat.le_refl _) (Nat.le_refl _) cx (fun x g1 h1 => ?_)
  obtain ⟨Rm, cm, hm⟩ := hx x g1 h1
  refine wp_aload_n dL_law_725 rfl rfl ?_
  refine lw_arg (k := 1) dL_law_726 dL_law_727 dL_law_728 dL_law_729 dL_law_730 rfl (by decide) hi hX ?_
  refine wp_callvI (As := [vI (X.2 (i + 1))]) dL_law_731 ml_9_92 (by decide) rfl L_45 (by decide) rfl (Nat.le_of_ble_eq_true rfl) rfl (Nat.le_refl _) (Nat.le_refl _) cm (fun z g2 h2 => ?_)
  obtain ⟨rfl, hB⟩ := hm z g2 h2
  exact wp_icmp_eq (tgt := 1416) dL_law_734 rfl (fun _ => kk g2 hB) (fun c => absurd rfl c)
theorem lw_first {d : Nat} {X : pX} {i : Nat} {g : pG} (hi : i + 4 ≤ X.1) (hX : X.1 ≤ 2048) (hp : PAIR d mX7_first mX8_first [vI (X.2 (i + 1))] g) (kk : ∀ g', BOTH g' → EL d X 1416 (lwL i) [] g') : EL d X 739 (lwL i) [] g := by
  obtain ⟨Rx, cx, hx⟩ := hp
  refine wp_aload_n dL_law_739 rfl rfl ?_
  refine lw_arg (k := 1) dL_law_740 dL_law_741 dL_law_742 dL_law_743 dL_law_744 rfl (by decide) hi hX ?_
  refine wp_callvI (As := [vI (X.2 (i + 1))]) dL_law_745 ml_9_93 (by decide) rfl L_0 (by decide) rfl (Nat.le_of_ble_eq_true rfl) rfl (Nat.le_refl _) (Nat.le_refl _) cx (fun x g1 h1 => ?_)
  obtain ⟨Rm, cm, hm⟩ := hx x g1 h1
  refine wp_aload_n dL_law_748 rfl rfl ?_
  refine lw_arg (k := 1) dL_law_749 dL_law_750 dL_law_751 dL_law_752 dL_law_753 rfl (by decide) hi hX ?_
  refine wp_callvI (As := [vI (X.2 (i + 1))]) dL_law_754 ml_9_96 (by decide) rfl L_45 (by decide) rfl (Nat.le_of_ble_eq_true rfl) rfl (Nat.le_refl _) (Nat.le_refl _) cm (fun z g2 h2 => ?_)
  obtain ⟨rfl, hB⟩ := hm z g2 h2
  exact wp_icmp_eq (tgt := 1416) dL_law_757 rfl (fun _ => kk g2 hB) (fun c => absurd rfl c)
theorem lw_apart {d : Nat} {X : pX} {i : Nat} {g : pG} (hi : i + 4 ≤ X.1) (hX : X.1 ≤ 2048) (hp : PAIR d mX7_apart mX8_apart [vI (X.2 (i + 1)), vI (X.2 (i + 2)), vI (X.2 (i + 3))] g) (kk : ∀ g', BOTH g' → EL d X 1416 (lwL i) [] g') : EL d X 762 (lwL i) [] g := by
  obtain ⟨Rx, cx, hx⟩ := hp
  refine wp_aload_n dL_law_762 rfl rfl ?_
  refine lw_arg (k := 1) dL_law_763 dL_law_764 dL_law_765 dL_law_766 dL_law_767 rfl (by decide) hi hX ?_
  refine lw_arg (k := 2) dL_law_768 dL_law_769 dL_law_770 dL_law_771 dL_law_772 rfl (by decide) hi hX ?_
  refine lw_arg (k := 3) dL_law_773 dL_law_774 dL_law_775 dL_law_776 dL_law_777 rfl (by decide) hi hX ?_
  refine wp_callvI (As := [vI (X.2 (i + 1)), vI (X.2 (i + 2)), vI (X.2 (i + 3))]) dL_law_778 ml_9_97 (by decide) rfl L_0 (by decide) rfl (Nat.le_of_ble_eq_true rfl) rfl (Nat.le_refl _) (Nat.le_refl _) cx (fun x g1 h1 => ?_)
  obtain ⟨Rm, cm, hm⟩ := hx x g1 h1
  refine wp_aload_n dL_law_781 rfl rfl ?_
  refine lw_arg (k := 1) dL_law_782 dL_law_783 dL_law_784 dL_law_785 dL_law_786 rfl (by decide) hi hX ?_
  refine lw_arg (k := 2) dL_law_787 dL_law_788 dL_law_789 dL_law_790 dL_law_791 rfl (by decide) hi hX ?_
  refine lw_arg (k := 3) dL_law_792 dL_law_793 dL_law_794 dL_law_795 dL_law_796 rfl (by decide) hi hX ?_
  refine wp_callvI (As := [vI (X.2 (i + 1)), vI (X.2 (i + 2)), vI (X.2 (i + 3))]) dL_law_797 ml_9_100 (by decide) rfl L_45 (by decide) rfl (Nat.le_of_ble_eq_true rfl) rfl (Nat.le_refl _) (Nat.le_refl _) cm (fun z g2 h2 => ?_)
  obtain ⟨rfl, hB⟩ := hm z g2 h2
  exact wp_icmp_eq (tgt := 1416) dL_law_800 rfl (fun _ => kk g2 hB) (fun c => absurd rfl c)
theorem lw_treaty {d : Nat} {X : pX} {i : Nat} {g : pG} (hi : i + 4 ≤ X.1) (hX : X.1 ≤ 2048) (hp : PAIR d mX7_treaty mX8_treaty [vI (X.2 (i + 1)), vI (X.2 (i + 2))] g) (kk : ∀ g', BOTH g' → EL d X 1416 (lwL i) [] g') : EL d X 805 (lwL i) [] g := by
  obtain ⟨Rx, cx, hx⟩ := hp
  refine wp_aload_n dL_law_805 rfl rfl ?_
  refine lw_arg (k := 1) dL_law_806 dL_law_807 dL_law_808 dL_law_809 dL_law_810 rfl (by decide) hi hX ?_
  refine lw_arg (k := 2) dL_law_811 dL_law_812 dL_law_813 dL_law_814 dL_law_815 rfl (by decide) hi hX ?_
  refine wp_callvI (As := [vI (X.2 (i + 1)), vI (X.2 (i + 2))]) dL_law_816 ml_9_101 (by decide) rfl L_0 (by decide) rfl (Nat.le_of_ble_eq_true rfl) rfl (Nat.le_refl _) (Nat.le_refl _) cx (fun x g1 h1 => ?_)
  obtain ⟨Rm, cm, hm⟩ := hx x g1 h1
  refine wp_aload_n dL_law_819 rfl rfl ?_
  refine lw_arg (k := 1) dL_law_820 dL_law_821 dL_law_822 dL_law_823 dL_law_824 rfl (by decide) hi hX ?_
  refine lw_arg (k := 2) dL_law_825 dL_law_826 dL_law_827 dL_law_828 dL_law_829 rfl (by decide) hi hX ?_
  refine wp_callvI (As := [vI (X.2 (i + 1)), vI (X.2 (i + 2))]) dL_law_830 ml_9_104 (by decide) rfl L_45 (by decide) rfl (Nat.le_of_ble_eq_true rfl) rfl (Nat.le_refl _) (Nat.le_refl _) cm (fun z g2 h2 => ?_)
  obtain ⟨rfl, hB⟩ := hm z g2 h2
  exact wp_icmp_eq (tgt := 1416) dL_law_833 rfl (fun _ => kk g2 hB) (fun c => absurd rfl c)
theorem lw_share {d : Nat} {X : pX} {i : Nat} {g : pG} (hi : i + 4 ≤ X.1) (hX : X.1 ≤ 2048) (hp : PAIR d mX7_share mX8_share [vI (X.2 (i + 1))] g) (kk : ∀ g', BOTH g' → EL d X 1416 (lwL i) [] g') : EL d X 838 (lwL i) [] g := by
  obtain ⟨Rx, cx, hx⟩ := hp
  refine wp_aload_n dL_law_838 rfl rfl ?_
  refine lw_arg (k := 1) dL_law_839 dL_law_840 dL_law_841 dL_law_842 dL_law_843 rfl (by decide) hi hX ?_
  refine wp_callvI (As := [vI (X.2 (i + 1))]) dL_law_844 ml_9_105 (by decide) rfl L_0 (by decide) rfl (Nat.le_of_ble_eq_true rfl) rfl (Nat.le_refl _) (Nat.le_refl _) cx (fun x g1 h1 => ?_)
  obtain ⟨Rm, cm, hm⟩ := hx x g1 h1
  refine wp_aload_n dL_law_847 rfl rfl ?_
  refine lw_arg (k := 1) dL_law_848 dL_law_849 dL_law_850 dL_law_851 dL_law_852 rfl (by decide) hi hX ?_
  refine wp_callvI (As := [vI (X.2 (i + 1))]) dL_law_853 ml_9_108 (by decide) rfl L_45 (by decide) rfl (Nat.le_of_ble_eq_true rfl) rfl (Nat.le_refl _) (Nat.le_refl _) cm (fun z g2 h2 => ?_)
  obtain ⟨rfl, hB⟩ := hm z g2 h2
  exact wp_icmp_eq (tgt := 1416) dL_law_856 rfl (fun _ => kk g2 hB) (fun c => absurd rfl c)
theorem lw_bedtime {d : Nat} {X : pX} {i : Nat} {g : pG} (hi : i + 4 ≤ X.1) (hX : X.1 ≤ 2048) (hp : PAIRL d mX7_bedtime mX8_bedtime [vI (X.2 (i + 1)), vI (X.2 (i + 2))] g) (kk : ∀ g', BOTH g' → EL d X 1416 (lwL i) [] g') : EL d X 861 (lwL i) [] g := by
  obtain ⟨Rx, cx, hx⟩ := hp
  refine wp_aload_n dL_law_861 rfl rfl ?_
  refine lw_arg (k := 1) dL_law_862 dL_law_863 dL_law_864 dL_law_865 dL_law_866 rfl (by decide) hi hX ?_
  refine lw_arg (k := 2) dL_law_867 dL_law_868 dL_law_869 dL_law_870 dL_law_871 rfl (by decide) hi hX ?_
  refine wp_callvL (As := [vI (X.2 (i + 1)), vI (X.2 (i + 2))]) dL_law_872 ml_9_109 (by decide) rfl L_0 (by decide) rfl (Nat.le_of_ble_eq_true rfl) rfl (Nat.le_refl _) (Nat.le_refl _) cx (fun x g1 h1 => ?_)
  obtain ⟨Rm, cm, hm⟩ := hx x g1 h1
  refine wp_aload_n dL_law_875 rfl rfl ?_
  refine lw_arg (k := 1) dL_law_876 dL_law_877 dL_law_878 dL_law_879 dL_law_880 rfl (by decide) hi hX ?_
  refine lw_arg (k := 2) dL_law_881 dL_law_882 dL_law_883 dL_law_884 dL_law_885 rfl (by decide) hi hX ?_
  refine wp_callvL (As := [vI (X.2 (i + 1)), vI (X.2 (i + 2))]) dL_law_886 ml_9_113 (by decide) rfl L_45 (by decide) rfl (Nat.le_of_ble_eq_true rfl) rfl (Nat.le_refl _) (Nat.le_refl _) cm (fun z g2 h2 => ?_)
  obtain ⟨rfl, hB⟩ := hm z g2 h2
  refine wp_lcmp dL_law_889 ?_
  exact wp_if_eq (tgt := 1416) dL_law_890 rfl (fun _ => kk g2 hB) (fun c => absurd (lcmp_self z) c)
theorem lw_order {d : Nat} {X : pX} {i : Nat} {g : pG} (hi : i + 4 ≤ X.1) (hX : X.1 ≤ 2048) (hp : PAIR d mX7_order mX8_order [] g) (kk : ∀ g', BOTH g' → EL d X 1416 (lwL i) [] g') : EL d X 895 (lwL i) [] g := by
  obtain ⟨Rx, cx, hx⟩ := hp
  refine wp_aload_n dL_law_895 rfl rfl ?_
  refine wp_callvI (As := []) dL_law_896 ml_9_114 (by decide) rfl L_0 (by decide) rfl (Nat.le_of_ble_eq_true rfl) rfl (Nat.le_refl _) (Nat.le_refl _) cx (fun x g1 h1 => ?_)
  obtain ⟨Rm, cm, hm⟩ := hx x g1 h1
  refine wp_aload_n dL_law_899 rfl rfl ?_
  refine wp_callvI (As := []) dL_law_900 ml_9_117 (by decide) rfl L_45 (by decide) rfl (Nat.le_of_ble_eq_true rfl) rfl (Nat.le_refl _) (Nat.le_refl _) cm (fun z g2 h2 => ?_)
  obtain ⟨rfl, hB⟩ := hm z g2 h2
  exact wp_icmp_eq (tgt := 1416) dL_law_903 rfl (fun _ => kk g2 hB) (fun c => absurd rfl c)
theorem lw_bestOrder {d : Nat} {X : pX} {i : Nat} {g : pG} (hi : i + 4 ≤ X.1) (hX : X.1 ≤ 2048) (hp : PAIR d mX7_bestOrder mX8_bestOrder [vI (X.2 (i + 1))] g) (kk : ∀ g', BOTH g' → EL d X 1416 (lwL i) [] g') : EL d X 908 (lwL i) [] g := by
  obtain ⟨Rx, cx, hx⟩ := hp
  refine wp_aload_n dL_law_908 rfl rfl ?_
  refine lw_arg (k := 1) dL_law_909 dL_law_910 dL_law_911 dL_law_912 dL_law_913 rfl (by decide) hi hX ?_
  refine wp_callvI (As := [vI (X.2 (i + 1))]) dL_law_914 ml_9_118 (by decide) rfl L_0 (by decide) rfl (Nat.le_of_ble_eq_true rfl) rfl (Nat.le_refl _) (Nat.le_refl _) cx (fun x g1 h1 => ?_)
  obtain ⟨Rm, cm, hm⟩ := hx x g1 h1
  refine wp_aload_n dL_law_917 rfl rfl ?_
  refine lw_arg (k := 1) dL_law_918 dL_law_919 dL_law_920 dL_law_921 dL_law_922 rfl (by decide) hi hX ?_
  refine wp_callvI (As := [vI (X.2 (i + 1))]) dL_law_923 ml_9_121 (by decide) rfl L_45 (by decide) rfl (Nat.le_of_ble_eq_true rfl) rfl (Nat.le_refl _) (Nat.le_refl _) cm (fun z g2 h2 => ?_)
  obtain ⟨rfl, hB⟩ := hm z g2 h2
  exact wp_icmp_eq (tgt := 1416) dL_law_926 rfl (fun _ => kk g2 hB) (fun c => absurd rfl c)
theorem lw_needed {d : Nat} {X : pX} {i : Nat} {g : pG} (hi : i + 4 ≤ X.1) (hX : X.1 ≤ 2048) (hp : PAIR d mX7_needed mX8_needed [vI (X.2 (i + 1))] g) (kk : ∀ g', BOTH g' → EL d X 1416 (lwL i) [] g') : EL d X 931 (lwL i) [] g := by
  obtain ⟨Rx, cx, hx⟩ := hp
  refine wp_aload_n dL_law_931 rfl rfl ?_
  refine lw_arg (k := 1) dL_law_932 dL_law_933 dL_law_934 dL_law_935 dL_law_936 rfl (by decide) hi hX ?_
  refine wp_callvI (As := [vI (X.2 (i + 1))]) dL_law_937 ml_9_122 (by decide) rfl L_0 (by decide) rfl (Nat.le_of_ble_eq_true rfl) rfl (Nat.le_refl _) (Nat.le_refl _) cx (fun x g1 h1 => ?_)
  obtain ⟨Rm, cm, hm⟩ := hx x g1 h1
  refine wp_aload_n dL_law_940 rfl rfl ?_
  refine lw_arg (k := 1) dL_law_941 dL_law_942 dL_law_943 dL_law_944 dL_law_945 rfl (by decide) hi hX ?_
  refine wp_callvI (As := [vI (X.2 (i + 1))]) dL_law_946 ml_9_125 (by decide) rfl L_45 (by decide) rfl (Nat.le_of_ble_eq_true rfl) rfl (Nat.le_refl _) (Nat.le_refl _) cm (fun z g2 h2 => ?_)
  obtain ⟨rfl, hB⟩ := hm z g2 h2
  exact wp_icmp_eq (tgt := 1416) dL_law_949 rfl (fun _ => kk g2 hB) (fun c => absurd rfl c)
theorem lw_cheapest {d : Nat} {X : pX} {i : Nat} {g : pG} (hi : i + 4 ≤ X.1) (hX : X.1 ≤ 2048) (hp : PAIR d mX7_cheapest mX8_cheapest [] g) (kk : ∀ g', BOTH g' → EL d X 1416 (lwL i) [] g') : EL d X 954 (lwL i) [] g := by
  obtain ⟨Rx, cx, hx⟩ := hp
  refine wp_aload_n dL_law_954 rfl rfl ?_
  refine wp_callvI (As := []) dL_law_955 ml_9_126 (by decide) rfl L_0 (by decide) rfl (Nat.le_of_ble_eq_true rfl) rfl (Nat.le_refl _) (Nat.le_refl _) cx (fun x g1 h1 => ?_)
  obtain ⟨Rm, cm, hm⟩ := hx x g1 h1
  refine wp_aload_n dL_law_958 rfl rfl ?_
  refine wp_callvI (As := []) dL_law_959 ml_9_129 (by decide) rfl L_45 (by decide) rfl (Nat.le_of_ble_eq_true rfl) rfl (Nat.le_refl _) (Nat.le_refl _) cm (fun z g2 h2 => ?_)
  obtain ⟨rfl, hB⟩ := hm z g2 h2
  exact wp_icmp_eq (tgt := 1416) dL_law_962 rfl (fun _ => kk g2 hB) (fun c => absurd rfl c)
theorem lw_biggest {d : Nat} {X : pX} {i : Nat} {g : pG} (hi : i + 4 ≤ X.1) (hX : X.1 ≤ 2048) (hp : PAIR d mX7_biggest mX8_biggest [vI (X.2 (i + 1))] g) (kk : ∀ g', BOTH g' → EL d X 1416 (lwL i) [] g') : EL d X 967 (lwL i) [] g := by
  obtain ⟨Rx, cx, hx⟩ := hp
  refine wp_aload_n dL_law_967 rfl rfl ?_
  refine lw_arg (k := 1) dL_law_968 dL_law_969 dL_law_970 dL_law_971 dL_law_972 rfl (by decide) hi hX ?_
  refine wp_callvI (As := [vI (X.2 (i + 1))]) dL_law_973 ml_9_130 (by decide) rfl L_0 (by decide) rfl (Nat.le_of_ble_eq_true rfl) rfl (Nat.le_refl _) (Nat.le_refl _) cx (fun x g1 h1 => ?_)
  obtain ⟨Rm, cm, hm⟩ := hx x g1 h1
  refine wp_aload_n dL_law_976 rfl rfl ?_
  refine lw_arg (k := 1) dL_law_977 dL_law_978 dL_law_979 dL_law_980 dL_law_981 rfl (by decide) hi hX ?_
  refine wp_callvI (As := [vI (X.2 (i + 1))]) dL_law_982 ml_9_133 (by decide) rfl L_45 (by decide) rfl (Nat.le_of_ble_eq_true rfl) rfl (Nat.le_refl _) (Nat.le_refl _) cm (fun z g2 h2 => ?_)
  obtain ⟨rfl, hB⟩ := hm z g2 h2
  exact wp_icmp_eq (tgt := 1416) dL_law_985 rfl (fun _ => kk g2 hB) (fun c => absurd rfl c)
theorem lw_swing {d : Nat} {X : pX} {i : Nat} {g : pG} (hi : i + 4 ≤ X.1) (hX : X.1 ≤ 2048) (hp : PAIR d mX7_swing mX8_swing [] g) (kk : ∀ g', BOTH g' → EL d X 1416 (lwL i) [] g') : EL d X 990 (lwL i) [] g := by
  obtain ⟨Rx, cx, hx⟩ := hp
  refine wp_aload_n dL_law_990 rfl rfl ?_
  refine wp_callvI (As := []) dL_law_991 ml_9_134 (by decide) rfl L_0 (by decide) rfl (Nat.le_of_ble_eq_true rfl) rfl (Nat.le_refl _) (Nat.le_refl _) cx (fun x g1 h1 => ?_)
  obtain ⟨Rm, cm, hm⟩ := hx x g1 h1
  refine wp_aload_n dL_law_994 rfl rfl ?_
  refine wp_callvI (As := []) dL_law_995 ml_9_137 (by decide) rfl L_45 (by decide) rfl (Nat.le_of_ble_eq_true rfl) rfl (Nat.le_refl _) (Nat.le_refl _) cm (fun z g2 h2 => ?_)
  obtain ⟨rfl, hB⟩ := hm z g2 h2
  exact wp_icmp_eq (tgt := 1416) dL_law_998 rfl (fun _ => kk g2 hB) (fun c => absurd rfl c)
theorem lw_rounds {d : Nat} {X : pX} {i : Nat} {g : pG} (hi : i + 4 ≤ X.1) (hX : X.1 ≤ 2048) (hp : PAIR d mX7_rounds mX8_rounds [] g) (kk : ∀ g', BOTH g' → EL d X 1416 (lwL i) [] g') : EL d X 1003 (lwL i) [] g := by
  obtain ⟨Rx, cx, hx⟩ := hp
  refine wp_aload_n dL_law_1003 rfl rfl ?_
  refine wp_callvI (As := []) dL_law_1004 ml_9_138 (by decide) rfl L_0 (by decide) rfl (Nat.le_of_ble_eq_true rfl) rfl (Nat.le_refl _) (Nat.le_refl _) cx (fun x g1 h1 => ?_)
  obtain ⟨Rm, cm, hm⟩ := hx x g1 h1
  refine wp_aload_n dL_law_1007 rfl rfl ?_
  refine wp_callvI (As := []) dL_law_1008 ml_9_141 (by decide) rfl L_45 (by decide) rfl (Nat.le_of_ble_eq_true rfl) rfl (Nat.le_refl _) (Nat.le_refl _) cm (fun z g2 h2 => ?_)
  obtain ⟨rfl, hB⟩ := hm z g2 h2
  exact wp_icmp_eq (tgt := 1416) dL_law_1011 rfl (fun _ => kk g2 hB) (fun c => absurd rfl c)
theorem lw_worst {d : Nat} {X : pX} {i : Nat} {g : pG} (hi : i + 4 ≤ X.1) (hX : X.1 ≤ 2048) (hp : PAIR d mX7_worst mX8_worst [vI (X.2 (i + 1)), vI (X.2 (i + 2))] g) (kk : ∀ g', BOTH g' → EL d X 1416 (lwL i) [] g') : EL d X 1016 (lwL i) [] g := by
  obtain ⟨Rx, cx, hx⟩ := hp
  refine wp_aload_n dL_law_1016 rfl rfl ?_
  refine lw_arg (k := 1) dL_law_1017 dL_law_1018 dL_law_1019 dL_law_1020 dL_law_1021 rfl (by decide) hi hX ?_
  refine lw_arg (k := 2) dL_law_1022 dL_law_1023 dL_law_1024 dL_law_1025 dL_law_1026 rfl (by decide) hi hX ?_
  refine wp_callvI (As := [vI (X.2 (i + 1)), vI (X.2 (i + 2))]) dL_law_1027 ml_9_142 (by decide) rfl L_0 (by decide) rfl (Nat.le_of_ble_eq_true rfl) rfl (Nat.le_refl _) (Nat.le_refl _) cx (fun x g1 h1 => ?_)
  obtain ⟨Rm, cm, hm⟩ := hx x g1 h1
  refine wp_aload_n dL_law_1030 rfl rfl ?_
  refine lw_arg (k := 1) dL_law_1031 dL_law_1032 dL_law_1033 dL_law_1034 dL_law_1035 rfl (by decide) hi hX ?_
  refine lw_arg (k := 2) dL_law_1036 dL_law_1037 dL_law_1038 dL_law_1039 dL_law_1040 rfl (by decide) hi hX ?_
  refine wp_callvI (As := [vI (X.2 (i + 1)), vI (X.2 (i + 2))]) dL_law_1041 ml_9_145 (by decide) rfl L_45 (by decide) rfl (Nat.le_of_ble_eq_true rfl) rfl (Nat.le_refl _) (Nat.le_refl _) cm (fun z g2 h2 => ?_)
  obtain ⟨rfl, hB⟩ := hm z g2 h2
  exact wp_icmp_eq (tgt := 1416) dL_law_1044 rfl (fun _ => kk g2 hB) (fun c => absurd rfl c)
theorem lw_same {d : Nat} {X : pX} {i : Nat} {g : pG} (hi : i + 4 ≤ X.1) (hX : X.1 ≤ 2048) (hp : PAIR d mX7_same mX8_same [] g) (kk : ∀ g', BOTH g' → EL d X 1416 (lwL i) [] g') : EL d X 1049 (lwL i) [] g := by
  obtain ⟨Rx, cx, hx⟩ := hp
  refine wp_aload_n dL_law_1049 rfl rfl ?_
  refine wp_callvI (As := []) dL_law_1050 ml_9_146 (by decide) rfl L_0 (by decide) rfl (Nat.le_of_ble_eq_true rfl) rfl (Nat.le_refl _) (Nat.le_refl _) cx (fun x g1 h1 => ?_)
  obtain ⟨Rm, cm, hm⟩ := hx x g1 h1
  refine wp_aload_n dL_law_1053 rfl rfl ?_
  refine wp_callvI (As := []) dL_law_1054 ml_9_149 (by decide) rfl L_45 (by decide) rfl (Nat.le_of_ble_eq_true rfl) rfl (Nat.le_refl _) (Nat.le_refl _) cm (fun z g2 h2 => ?_)
  obtain ⟨rfl, hB⟩ := hm z g2 h2
  exact wp_icmp_eq (tgt := 1416) dL_law_1057 rfl (fun _ => kk g2 hB) (fun c => absurd rfl c)
theorem lw_dead {d : Nat} {X : pX} {i : Nat} {g : pG} (hi : i + 4 ≤ X.1) (hX : X.1 ≤ 2048) (hp : PAIR d mX7_dead mX8_dead [] g) (kk : ∀ g', BOTH g' → EL d X 1416 (lwL i) [] g') : EL d X 1062 (lwL i) [] g := by
  obtain ⟨Rx, cx, hx⟩ := hp
  refine wp_aload_n dL_law_1062 rfl rfl ?_
  refine wp_callvI (As := []) dL_law_1063 ml_9_150 (by decide) rfl L_0 (by decide) rfl (Nat.le_of_ble_eq_true rfl) rfl (Nat.le_refl _) (Nat.le_refl _) cx (fun x g1 h1 => ?_)
  obtain ⟨Rm, cm, hm⟩ := hx x g1 h1
  refine wp_aload_n dL_law_1066 rfl rfl ?_
  refine wp_callvI (As := []) dL_law_1067 ml_9_153 (by decide) rfl L_45 (by decide) rfl (Nat.le_of_ble_eq_true rfl) rfl (Nat.le_refl _) (Nat.le_refl _) cm (fun z g2 h2 => ?_)
  obtain ⟨rfl, hB⟩ := hm z g2 h2
  exact wp_icmp_eq (tgt := 1416) dL_law_1070 rfl (fun _ => kk g2 hB) (fun c => absurd rfl c)
theorem lw_flip {d : Nat} {X : pX} {i : Nat} {g : pG} (hi : i + 4 ≤ X.1) (hX : X.1 ≤ 2048) (hp : PAIR d mX7_flip mX8_flip [vI (X.2 (i + 1))] g) (kk : ∀ g', BOTH g' → EL d X 1416 (lwL i) [] g') : EL d X 1075 (lwL i) [] g := by
  obtain ⟨Rx, cx, hx⟩ := hp
  refine wp_aload_n dL_law_1075 rfl rfl ?_
  refine lw_arg (k := 1) dL_law_1076 dL_law_1077 dL_law_1078 dL_law_1079 dL_law_1080 rfl (by decide) hi hX ?_
  refine wp_callvI (As := [vI (X.2 (i + 1))]) dL_law_1081 ml_9_154 (by decide) rfl L_0 (by decide) rfl (Nat.le_of_ble_eq_true rfl) rfl (Nat.le_refl _) (Nat.le_refl _) cx (fun x g1 h1 => ?_)
  obtain ⟨Rm, cm, hm⟩ := hx x g1 h1
  refine wp_aload_n dL_law_1084 rfl rfl ?_
  refine lw_arg (k := 1) dL_law_1085 dL_law_1086 dL_law_1087 dL_law_1088 dL_law_1089 rfl (by decide) hi hX ?_
  refine wp_callvI (As := [vI (X.2 (i + 1))]) dL_law_1090 ml_9_157 (by decide) rfl L_45 (by decide) rfl (Nat.le_of_ble_eq_true rfl) rfl (Nat.le_refl _) (Nat.le_refl _) cm (fun z g2 h2 => ?_)
  obtain ⟨rfl, hB⟩ := hm z g2 h2
  exact wp_icmp_eq (tgt := 1416) dL_law_1093 rfl (fun _ => kk g2 hB) (fun c => absurd rfl c)
theorem lw_margin {d : Nat} {X : pX} {i : Nat} {g : pG} (hi : i + 4 ≤ X.1) (hX : X.1 ≤ 2048) (hp : PAIR d mX7_margin mX8_margin [] g) (kk : ∀ g', BOTH g' → EL d X 1416 (lwL i) [] g') : EL d X 1098 (lwL i) [] g := by
  obtain ⟨Rx, cx, hx⟩ := hp
  refine wp_aload_n dL_law_1098 rfl rfl ?_
  refine wp_callvI (As := []) dL_law_1099 ml_9_158 (by decide) rfl L_0 (by decide) rfl (Nat.le_of_ble_eq_true rfl) rfl (Nat.le_refl _) (Nat.le_refl _) cx (fun x g1 h1 => ?_)
  obtain ⟨Rm, cm, hm⟩ := hx x g1 h1
  refine wp_aload_n dL_law_1102 rfl rfl ?_
  refine wp_callvI (As := []) dL_law_1103 ml_9_161 (by decide) rfl L_45 (by decide) rfl (Nat.le_of_ble_eq_true rfl) rfl (Nat.le_refl _) (Nat.le_refl _) cm (fun z g2 h2 => ?_)
  obtain ⟨rfl, hB⟩ := hm z g2 h2
  exact wp_icmp_eq (tgt := 1416) dL_law_1106 rfl (fun _ => kk g2 hB) (fun c => absurd rfl c)
theorem lw_beats {d : Nat} {X : pX} {i : Nat} {g : pG} (hi : i + 4 ≤ X.1) (hX : X.1 ≤ 2048) (hp : PAIR d mX7_beats mX8_beats [] g) (kk : ∀ g', BOTH g' → EL d X 1416 (lwL i) [] g') : EL d X 1111 (lwL i) [] g := by
  obtain ⟨Rx, cx, hx⟩ := hp
  refine wp_aload_n dL_law_1111 rfl rfl ?_
  refine wp_callvI (As := []) dL_law_1112 ml_9_162 (by decide) rfl L_0 (by decide) rfl (Nat.le_of_ble_eq_true rfl) rfl (Nat.le_refl _) (Nat.le_refl _) cx (fun x g1 h1 => ?_)
  obtain ⟨Rm, cm, hm⟩ := hx x g1 h1
  refine wp_aload_n dL_law_1115 rfl rfl ?_
  refine wp_callvI (As := []) dL_law_1116 ml_9_165 (by decide) rfl L_45 (by decide) rfl (Nat.le_of_ble_eq_true rfl) rfl (Nat.le_refl _) (Nat.le_refl _) cm (fun z g2 h2 => ?_)
  obtain ⟨rfl, hB⟩ := hm z g2 h2
  exact wp_icmp_eq (tgt := 1416) dL_law_1119 rfl (fun _ => kk g2 hB) (fun c => absurd rfl c)
theorem lw_commute {d : Nat} {X : pX} {i : Nat} {g : pG} (hi : i + 4 ≤ X.1) (hX : X.1 ≤ 2048) (hp : PAIR d mX7_commute mX8_commute [vI (X.2 (i + 1)), vI (X.2 (i + 2))] g) (kk : ∀ g', BOTH g' → EL d X 1416 (lwL i) [] g') : EL d X 1124 (lwL i) [] g := by
  obtain ⟨Rx, cx, hx⟩ := hp
  refine wp_aload_n dL_law_1124 rfl rfl ?_
  refine lw_arg (k := 1) dL_law_1125 dL_law_1126 dL_law_1127 dL_law_1128 dL_law_1129 rfl (by decide) hi hX ?_
  refine lw_arg (k := 2) dL_law_1130 dL_law_1131 dL_law_1132 dL_law_1133 dL_law_1134 rfl (by decide) hi hX ?_
  refine wp_callvI (As := [vI (X.2 (i + 1)), vI (X.2 (i + 2))]) dL_law_1135 ml_9_166 (by decide) rfl L_0 (by decide) rfl (Nat.le_of_ble_eq_true rfl) rfl (Nat.le_refl _) (Nat.le_refl _) cx (fun x g1 h1 => ?_)
  obtain ⟨Rm, cm, hm⟩ := hx x g1 h1
  refine wp_aload_n dL_law_1138 rfl rfl ?_
  refine lw_arg (k := 1) dL_law_1139 dL_law_1140 dL_law_1141 dL_law_1142 dL_law_1143 rfl (by decide) hi hX ?_
  refine lw_arg (k := 2) dL_law_1144 dL_law_1145 dL_law_1146 dL_law_1147 dL_law_1148 rfl (by decide) hi hX ?_
  refine wp_callvI (As := [vI (X.2 (i + 1)), vI (X.2 (i + 2))]) dL_law_1149 ml_9_169 (by decide) rfl L_45 (by decide) rfl (Nat.le_of_ble_eq_true rfl) rfl (Nat.le_refl _) (Nat.le_refl _) cm (fun z g2 h2 => ?_)
  obtain ⟨rfl, hB⟩ := hm z g2 h2
  exact wp_icmp_eq (tgt := 1416) dL_law_1152 rfl (fun _ => kk g2 hB) (fun c => absurd rfl c)
theorem lw_again {d : Nat} {X : pX} {i : Nat} {g : pG} (hi : i + 4 ≤ X.1) (hX : X.1 ≤ 2048) (hp : PAIR d mX7_again mX8_again [vI (X.2 (i + 1)), vI (X.2 (i + 2))] g) (kk : ∀ g', BOTH g' → EL d X 1416 (lwL i) [] g') : EL d X 1157 (lwL i) [] g := by
  obtain ⟨Rx, cx, hx⟩ := hp
  refine wp_aload_n dL_law_1157 rfl rfl ?_
  refine lw_arg (k := 1) dL_law_1158 dL_law_1159 dL_law_1160 dL_law_1161 dL_law_1162 rfl (by decide) hi hX ?_
  refine lw_arg (k := 2) dL_law_1163 dL_law_1164 dL_law_1165 dL_law_1166 dL_law_1167 rfl (by decide) hi hX ?_
  refine wp_callvI (As := [vI (X.2 (i + 1)), vI (X.2 (i + 2))]) dL_law_1168 ml_9_170 (by decide) rfl L_0 (by decide) rfl (Nat.le_of_ble_eq_true rfl) rfl (Nat.le_refl _) (Nat.le_refl _) cx (fun x g1 h1 => ?_)
  obtain ⟨Rm, cm, hm⟩ := hx x g1 h1
  refine wp_aload_n dL_law_1171 rfl rfl ?_
  refine lw_arg (k := 1) dL_law_1172 dL_law_1173 dL_law_1174 dL_law_1175 dL_law_1176 rfl (by decide) hi hX ?_
  refine lw_arg (k := 2) dL_law_1177 dL_law_1178 dL_law_1179 dL_law_1180 dL_law_1181 rfl (by decide) hi hX ?_
  refine wp_callvI (As := [vI (X.2 (i + 1)), vI (X.2 (i + 2))]) dL_law_1182 ml_9_173 (by decide) rfl L_45 (by decide) rfl (Nat.le_of_ble_eq_true rfl) rfl (Nat.le_refl _) (Nat.le_refl _) cm (fun z g2 h2 => ?_)
  obtain ⟨rfl, hB⟩ := hm z g2 h2
  exact wp_icmp_eq (tgt := 1416) dL_law_1185 rfl (fun _ => kk g2 hB) (fun c => absurd rfl c)
theorem lw_bestLowest {d : Nat} {X : pX} {i : Nat} {g : pG} (hi : i + 4 ≤ X.1) (hX : X.1 ≤ 2048) (hp : PAIR d mX7_bestLowest mX8_bestLowest [vI (X.2 (i + 1))] g) (kk : ∀ g', BOTH g' → EL d X 1416 (lwL i) [] g') : EL d X 1190 (lwL i) [] g := by
  obtain ⟨Rx, cx, hx⟩ := hp
  refine wp_aload_n dL_law_1190 rfl rfl ?_
  refine lw_arg (k := 1) dL_law_1191 dL_law_1192 dL_law_1193 dL_law_1194 dL_law_1195 rfl (by decide) hi hX ?_
  refine wp_callvI (As := [vI (X.2 (i + 1))]) dL_law_1196 ml_9_174 (by decide) rfl L_0 (by decide) rfl (Nat.le_of_ble_eq_true rfl) rfl (Nat.le_refl _) (Nat.le_refl _) cx (fun x g1 h1 => ?_)
  obtain ⟨Rm, cm, hm⟩ := hx x g1 h1
  refine wp_aload_n dL_law_1199 rfl rfl ?_
  refine lw_arg (k := 1) dL_law_1200 dL_law_1201 dL_law_1202 dL_law_1203 dL_law_1204 rfl (by decide) hi hX ?_
  refine wp_callvI (As := [vI (X.2 (i + 1))]) dL_law_1205 ml_9_177 (by decide) rfl L_45 (by decide) rfl (Nat.le_of_ble_eq_true rfl) rfl (Nat.le_refl _) (Nat.le_refl _) cm (fun z g2 h2 => ?_)
  obtain ⟨rfl, hB⟩ := hm z g2 h2
  exact wp_icmp_eq (tgt := 1416) dL_law_1208 rfl (fun _ => kk g2 hB) (fun c => absurd rfl c)
theorem lw_peak {d : Nat} {X : pX} {i : Nat} {g : pG} (hi : i + 4 ≤ X.1) (hX : X.1 ≤ 2048) (hp : PAIR d mX7_peak mX8_peak [vI (X.2 (i + 1))] g) (kk : ∀ g', BOTH g' → EL d X 1416 (lwL i) [] g') : EL d X 1213 (lwL i) [] g := by
  obtain ⟨Rx, cx, hx⟩ := hp
  refine wp_aload_n dL_law_1213 rfl rfl ?_
  refine lw_arg (k := 1) dL_law_1214 dL_law_1215 dL_law_1216 dL_law_1217 dL_law_1218 rfl (by decide) hi hX ?_
  refine wp_callvI (As := [vI (X.2 (i + 1))]) dL_law_1219 ml_9_178 (by decide) rfl L_0 (by decide) rfl (Nat.le_of_ble_eq_true rfl) rfl (Nat.le_refl _) (Nat.le_refl _) cx (fun x g1 h1 => ?_)
  obtain ⟨Rm, cm, hm⟩ := hx x g1 h1
  refine wp_aload_n dL_law_1222 rfl rfl ?_
  refine lw_arg (k := 1) dL_law_1223 dL_law_1224 dL_law_1225 dL_law_1226 dL_law_1227 rfl (by decide) hi hX ?_
  refine wp_callvI (As := [vI (X.2 (i + 1))]) dL_law_1228 ml_9_181 (by decide) rfl L_45 (by decide) rfl (Nat.le_of_ble_eq_true rfl) rfl (Nat.le_refl _) (Nat.le_refl _) cm (fun z g2 h2 => ?_)
  obtain ⟨rfl, hB⟩ := hm z g2 h2
  exact wp_icmp_eq (tgt := 1416) dL_law_1231 rfl (fun _ => kk g2 hB) (fun c => absurd rfl c)
theorem lw_fullStake {d : Nat} {X : pX} {i : Nat} {g : pG} (hi : i + 4 ≤ X.1) (hX : X.1 ≤ 2048) (hp : PAIR d mX7_fullStake mX8_fullStake [] g) (kk : ∀ g', BOTH g' → EL d X 1416 (lwL i) [] g') : EL d X 1236 (lwL i) [] g := by
  obtain ⟨Rx, cx, hx⟩ := hp
  refine wp_aload_n dL_law_1236 rfl rfl ?_
  refine wp_callvI (As := []) dL_law_1237 ml_9_182 (by decide) rfl L_0 (by decide) rfl (Nat.le_of_ble_eq_true rfl) rfl (Nat.le_refl _) (Nat.le_refl _) cx (fun x g1 h1 => ?_)
  obtain ⟨Rm, cm, hm⟩ := hx x g1 h1
  refine wp_aload_n dL_law_1240 rfl rfl ?_
  refine wp_callvI (As := []) dL_law_1241 ml_9_185 (by decide) rfl L_45 (by decide) rfl (Nat.le_of_ble_eq_true rfl) rfl (Nat.le_refl _) (Nat.le_refl _) cm (fun z g2 h2 => ?_)
  obtain ⟨rfl, hB⟩ := hm z g2 h2
  exact wp_icmp_eq (tgt := 1416) dL_law_1244 rfl (fun _ => kk g2 hB) (fun c => absurd rfl c)
theorem lw_heard {d : Nat} {X : pX} {i : Nat} {g : pG} (hi : i + 4 ≤ X.1) (hX : X.1 ≤ 2048) (hp : PAIR d mX7_heard mX8_heard [] g) (kk : ∀ g', BOTH g' → EL d X 1416 (lwL i) [] g') : EL d X 1249 (lwL i) [] g := by
  obtain ⟨Rx, cx, hx⟩ := hp
  refine wp_aload_n dL_law_1249 rfl rfl ?_
  refine wp_callvI (As := []) dL_law_1250 ml_9_186 (by decide) rfl L_0 (by decide) rfl (Nat.le_of_ble_eq_true rfl) rfl (Nat.le_refl _) (Nat.le_refl _) cx (fun x g1 h1 => ?_)
  obtain ⟨Rm, cm, hm⟩ := hx x g1 h1
  refine wp_aload_n dL_law_1253 rfl rfl ?_
  refine wp_callvI (As := []) dL_law_1254 ml_9_189 (by decide) rfl L_45 (by decide) rfl (Nat.le_of_ble_eq_true rfl) rfl (Nat.le_refl _) (Nat.le_refl _) cm (fun z g2 h2 => ?_)
  obtain ⟨rfl, hB⟩ := hm z g2 h2
  exact wp_icmp_eq (tgt := 1416) dL_law_1257 rfl (fun _ => kk g2 hB) (fun c => absurd rfl c)
theorem lw_lastSay {d : Nat} {X : pX} {i : Nat} {g : pG} (hi : i + 4 ≤ X.1) (hX : X.1 ≤ 2048) (hp : PAIR d mX7_lastSay mX8_lastSay [] g) (kk : ∀ g', BOTH g' → EL d X 1416 (lwL i) [] g') : EL d X 1262 (lwL i) [] g := by
  obtain ⟨Rx, cx, hx⟩ := hp
  refine wp_aload_n dL_law_1262 rfl rfl ?_
  refine wp_callvI (As := []) dL_law_1263 ml_9_190 (by decide) rfl L_0 (by decide) rfl (Nat.le_of_ble_eq_true rfl) rfl (Nat.le_refl _) (Nat.le_refl _) cx (fun x g1 h1 => ?_)
  obtain ⟨Rm, cm, hm⟩ := hx x g1 h1
  refine wp_aload_n dL_law_1266 rfl rfl ?_
  refine wp_callvI (As := []) dL_law_1267 ml_9_193 (by decide) rfl L_45 (by decide) rfl (Nat.le_of_ble_eq_true rfl) rfl (Nat.le_refl _) (Nat.le_refl _) cm (fun z g2 h2 => ?_)
  obtain ⟨rfl, hB⟩ := hm z g2 h2
  exact wp_icmp_eq (tgt := 1416) dL_law_1270 rfl (fun _ => kk g2 hB) (fun c => absurd rfl c)
theorem lw_row {d : Nat} {X : pX} {i : Nat} {g : pG} (hi : i + 4 ≤ X.1) (hX : X.1 ≤ 2048) (hp : PAIR d mX7_row mX8_row [vI (X.2 (i + 1))] g) (kk : ∀ g', BOTH g' → EL d X 1416 (lwL i) [] g') : EL d X 1275 (lwL i) [] g := by
  obtain ⟨Rx, cx, hx⟩ := hp
  refine wp_aload_n dL_law_1275 rfl rfl ?_
  refine lw_arg (k := 1) dL_law_1276 dL_law_1277 dL_law_1278 dL_law_1279 dL_law_1280 rfl (by decide) hi hX ?_
  refine wp_callvI (As := [vI (X.2 (i + 1))]) dL_law_1281 ml_9_194 (by decide) rfl L_0 (by decide) rfl (Nat.le_of_ble_eq_true rfl) rfl (Nat.le_refl _) (Nat.le_refl _) cx (fun x g1 h1 => ?_)
  obtain ⟨Rm, cm, hm⟩ := hx x g1 h1
  refine wp_aload_n dL_law_1284 rfl rfl ?_
  refine lw_arg (k := 1) dL_law_1285 dL_law_1286 dL_law_1287 dL_law_1288 dL_law_1289 rfl (by decide) hi hX ?_
  refine wp_callvI (As := [vI (X.2 (i + 1))]) dL_law_1290 ml_9_197 (by decide) rfl L_45 (by decide) rfl (Nat.le_of_ble_eq_true rfl) rfl (Nat.le_refl _) (Nat.le_refl _) cm (fun z g2 h2 => ?_)
  obtain ⟨rfl, hB⟩ := hm z g2 h2
  exact wp_icmp_eq (tgt := 1416) dL_law_1293 rfl (fun _ => kk g2 hB) (fun c => absurd rfl c)
theorem lw_judge {d : Nat} {X : pX} {i : Nat} {g : pG} (hi : i + 4 ≤ X.1) (hX : X.1 ≤ 2048) (hp : PAIR d mX7_judge mX8_judge [] g) (kk : ∀ g', BOTH g' → EL d X 1416 (lwL i) [] g') : EL d X 1298 (lwL i) [] g := by
  obtain ⟨Rx, cx, hx⟩ := hp
  refine wp_aload_n dL_law_1298 rfl rfl ?_
  refine wp_callvI (As := []) dL_law_1299 ml_9_198 (by decide) rfl L_0 (by decide) rfl (Nat.le_of_ble_eq_true rfl) rfl (Nat.le_refl _) (Nat.le_refl _) cx (fun x g1 h1 => ?_)
  obtain ⟨Rm, cm, hm⟩ := hx x g1 h1
  refine wp_aload_n dL_law_1302 rfl rfl ?_
  refine wp_callvI (As := []) dL_law_1303 ml_9_201 (by decide) rfl L_45 (by decide) rfl (Nat.le_of_ble_eq_true rfl) rfl (Nat.le_refl _) (Nat.le_refl _) cm (fun z g2 h2 => ?_)
  obtain ⟨rfl, hB⟩ := hm z g2 h2
  exact wp_icmp_eq (tgt := 1416) dL_law_1306 rfl (fun _ => kk g2 hB) (fun c => absurd rfl c)
theorem lw_clear {d : Nat} {X : pX} {i : Nat} {g : pG} (hi : i + 4 ≤ X.1) (hX : X.1 ≤ 2048) (hp : PAIR d mX7_clear mX8_clear [] g) (kk : ∀ g', BOTH g' → EL d X 1416 (lwL i) [] g') : EL d X 1311 (lwL i) [] g := by
  obtain ⟨Rx, cx, hx⟩ := hp
  refine wp_aload_n dL_law_1311 rfl rfl ?_
  refine wp_callvI (As := []) dL_law_1312 ml_9_202 (by decide) rfl L_0 (by decide) rfl (Nat.le_of_ble_eq_true rfl) rfl (Nat.le_refl _) (Nat.le_refl _) cx (fun x g1 h1 => ?_)
  obtain ⟨Rm, cm, hm⟩ := hx x g1 h1
  refine wp_aload_n dL_law_1315 rfl rfl ?_
  refine wp_callvI (As := []) dL_law_1316 ml_9_205 (by decide) rfl L_45 (by decide) rfl (Nat.le_of_ble_eq_true rfl) rfl (Nat.le_refl _) (Nat.le_refl _) cm (fun z g2 h2 => ?_)
  obtain ⟨rfl, hB⟩ := hm z g2 h2
  exact wp_icmp_eq (tgt := 1416) dL_law_1319 rfl (fun _ => kk g2 hB) (fun c => absurd rfl c)
theorem lw_lots {d : Nat} {X : pX} {i : Nat} {g : pG} (hi : i + 4 ≤ X.1) (hX : X.1 ≤ 2048) (hp : PAIR d mX7_lots mX8_lots [vI (X.2 (i + 1)), vI (X.2 (i + 2)), vI (X.2 (i + 3))] g) (kk : ∀ g', BOTH g' → EL d X 1416 (lwL i) [] g') : EL d X 1324 (lwL i) [] g := by
  obtain ⟨Rx, cx, hx⟩ := hp
  refine wp_aload_n dL_law_1324 rfl rfl ?_
  refine lw_arg (k := 1) dL_law_1325 dL_law_1326 dL_law_1327 dL_law_1328 dL_law_1329 rfl (by decide) hi hX ?_
  refine lw_arg (k := 2) dL_law_1330 dL_law_1331 dL_law_1332 dL_law_1333 dL_law_1334 rfl (by decide) hi hX ?_
  refine lw_arg (k := 3) dL_law_1335 dL_law_1336 dL_law_1337 dL_law_1338 dL_law_1339 rfl (by decide) hi hX ?_
  refine wp_callvI (As := [vI (X.2 (i + 1)), vI (X.2 (i + 2)), vI (X.2 (i + 3))]) dL_law_1340 ml_9_206 (by decide) rfl L_0 (by decide) rfl (Nat.le_of_ble_eq_true rfl) rfl (Nat.le_refl _) (Nat.le_refl _) cx (fun x g1 h1 => ?_)
  obtain ⟨Rm, cm, hm⟩ := hx x g1 h1
  refine wp_aload_n dL_law_1343 rfl rfl ?_
  refine lw_arg (k := 1) dL_law_1344 dL_law_1345 dL_law_1346 dL_law_1347 dL_law_1348 rfl (by decide) hi hX ?_
  refine lw_arg (k := 2) dL_law_1349 dL_law_1350 dL_law_1351 dL_law_1352 dL_law_1353 rfl (by decide) hi hX ?_
  refine lw_arg (k := 3) dL_law_1354 dL_law_1355 dL_law_1356 dL_law_1357 dL_law_1358 rfl (by decide) hi hX ?_
  refine wp_callvI (As := [vI (X.2 (i + 1)), vI (X.2 (i + 2)), vI (X.2 (i + 3))]) dL_law_1359 ml_9_209 (by decide) rfl L_45 (by decide) rfl (Nat.le_of_ble_eq_true rfl) rfl (Nat.le_refl _) (Nat.le_refl _) cm (fun z g2 h2 => ?_)
  obtain ⟨rfl, hB⟩ := hm z g2 h2
  exact wp_icmp_eq (tgt := 1416) dL_law_1362 rfl (fun _ => kk g2 hB) (fun c => absurd rfl c)
theorem lw_image {d : Nat} {X : pX} {i : Nat} {g : pG} (hi : i + 4 ≤ X.1) (hX : X.1 ≤ 2048) (hp : PAIR d mX7_image mX8_image [] g) (kk : ∀ g', BOTH g' → EL d X 1416 (lwL i) [] g') : EL d X 1367 (lwL i) [] g := by
  obtain ⟨Rx, cx, hx⟩ := hp
  refine wp_aload_n dL_law_1367 rfl rfl ?_
  refine wp_callvI (As := []) dL_law_1368 ml_9_210 (by decide) rfl L_0 (by decide) rfl (Nat.le_of_ble_eq_true rfl) rfl (Nat.le_refl _) (Nat.le_refl _) cx (fun x g1 h1 => ?_)
  obtain ⟨Rm, cm, hm⟩ := hx x g1 h1
  refine wp_aload_n dL_law_1371 rfl rfl ?_
  refine wp_callvI (As := []) dL_law_1372 ml_9_213 (by decide) rfl L_45 (by decide) rfl (Nat.le_of_ble_eq_true rfl) rfl (Nat.le_refl _) (Nat.le_refl _) cm (fun z g2 h2 => ?_)
  obtain ⟨rfl, hB⟩ := hm z g2 h2
  exact wp_icmp_eq (tgt := 1416) dL_law_1375 rfl (fun _ => kk g2 hB) (fun c => absurd rfl c)
theorem lw_restore {d : Nat} {X : pX} {i : Nat} {g : pG} (hi : i + 4 ≤ X.1) (hX : X.1 ≤ 2048) (hp : PAIR d mX7_restore mX8_restore [] g) (kk : ∀ g', BOTH g' → EL d X 1416 (lwL i) [] g') : EL d X 1380 (lwL i) [] g := by
  obtain ⟨Rx, cx, hx⟩ := hp
  refine wp_aload_n dL_law_1380 rfl rfl ?_
  refine wp_callvI (As := []) dL_law_1381 ml_9_214 (by decide) rfl L_0 (by decide) rfl (Nat.le_of_ble_eq_true rfl) rfl (Nat.le_refl _) (Nat.le_refl _) cx (fun x g1 h1 => ?_)
  obtain ⟨Rm, cm, hm⟩ := hx x g1 h1
  refine wp_aload_n dL_law_1384 rfl rfl ?_
  refine wp_callvI (As := []) dL_law_1385 ml_9_217 (by decide) rfl L_45 (by decide) rfl (Nat.le_of_ble_eq_true rfl) rfl (Nat.le_refl _) (Nat.le_refl _) cm (fun z g2 h2 => ?_)
  obtain ⟨rfl, hB⟩ := hm z g2 h2
  exact wp_icmp_eq (tgt := 1416) dL_law_1388 rfl (fun _ => kk g2 hB) (fun c => absurd rfl c)
theorem lw_count {d : Nat} {X : pX} {i : Nat} {g : pG} (hi : i + 4 ≤ X.1) (hX : X.1 ≤ 2048) (hp : PAIR d mX7_count mX8_count [vI (X.2 (i + 1))] g) (kk : ∀ g', BOTH g' → EL d X 1416 (lwL i) [] g') : EL d X 1393 (lwL i) [] g := by
  obtain ⟨Rx, cx, hx⟩ := hp
  refine wp_aload_n dL_law_1393 rfl rfl ?_
  refine lw_arg (k := 1) dL_law_1394 dL_law_1395 dL_law_1396 dL_law_1397 dL_law_1398 rfl (by decide) hi hX ?_
  refine wp_callvI (As := [vI (X.2 (i + 1))]) dL_law_1399 ml_9_218 (by decide) rfl L_0 (by decide) rfl (Nat.le_of_ble_eq_true rfl) rfl (Nat.le_refl _) (Nat.le_refl _) cx (fun x g1 h1 => ?_)
  obtain ⟨Rm, cm, hm⟩ := hx x g1 h1
  refine wp_aload_n dL_law_1402 rfl rfl ?_
  refine lw_arg (k := 1) dL_law_1403 dL_law_1404 dL_law_1405 dL_law_1406 dL_law_1407 rfl (by decide) hi hX ?_
  refine wp_callvI (As := [vI (X.2 (i + 1))]) dL_law_1408 ml_9_221 (by decide) rfl L_45 (by decide) rfl (Nat.le_of_ble_eq_true rfl) rfl (Nat.le_refl _) (Nat.le_refl _) cm (fun z g2 h2 => ?_)
  obtain ⟨rfl, hB⟩ := hm z g2 h2
  exact wp_icmp_eq (tgt := 1416) dL_law_1411 rfl (fun _ => kk g2 hB) (fun c => absurd rfl c)
set_option maxRecDepth 100000 in
theorem law_body {d : Nat} {X : pX} {i : Nat} {g : pG} (hd : 12 ≤ d) (hi : i + 4 ≤ X.1) (hX : X.1 ≤ 2048) (hB : BOTH g) (kk : ∀ g', BOTH g' → EL d X 1416 (lwL i) [] g') : EL d X 26 (lwL i) [] g := by
  refine wp_aload_n dL_law_26 rfl rfl (wp_iload_n (x := (i : Int)) dL_law_27 rfl (wp_saload dL_law_28 rfl (by omega) (by omega) (wp_bipush dL_law_29 (by decide +kernel) (by decide +kernel) (wp_iand dL_law_31 ?_))))
  generalize zand (X.2 ((i : Int)).toNat) 63 = q
  obtain ⟨st, hok, hx, hm⟩ := hB
  refine wp_tsw dL_law_32 (fun _ => ⟨1416, rfl, kk g ⟨st, hok, hx, hm⟩⟩) (fun h1 h2 => ?_)
  rcases (show q = 0 ∨ q = 1 ∨ q = 2 ∨ q = 3 ∨ q = 4 ∨ q = 5 ∨ q = 6 ∨ q = 7 ∨ q = 8 ∨ q = 9 ∨ q = 10 ∨ q = 11 ∨ q = 12 ∨ q = 13 ∨ q = 14 ∨ q = 15 ∨ q = 16 ∨ q = 17 ∨ q = 18 ∨ q = 19 ∨ q = 20 ∨ q = 21 ∨ q = 22 ∨ q = 23 ∨ q = 24 ∨ q = 25 ∨ q = 26 ∨ q = 27 ∨ q = 28 ∨ q = 29 ∨ q = 30 ∨ q = 31 ∨ q = 32 ∨ q = 33 ∨ q = 34 ∨ q = 35 ∨ q = 36 ∨ q = 37 ∨ q = 38 ∨ q = 39 ∨ q = 40 ∨ q = 41 ∨ q = 42 ∨ q = 43 ∨ q = 44 ∨ q = 45 ∨ q = 46 ∨ q = 47 ∨ q = 48 ∨ q = 49 ∨ q = 50 by omega) with rfl | rfl | rfl | rfl | rfl | rfl | rfl | rfl | rfl | rfl | rfl | rfl | rfl | rfl | rfl | rfl | rfl | rfl | rfl | rfl | rfl | rfl | rfl | rfl | rfl | rfl | rfl | rfl | rfl | rfl | rfl | rfl | rfl | rfl | rfl | rfl | rfl | rfl | rfl | rfl | rfl | rfl | rfl | rfl | rfl | rfl | rfl | rfl | rfl | rfl | rfl
  · exact ⟨220, 252, rfl, rfl, lw_feed hi hX (p_feed hd hok hx hm) kk⟩
  · exact ⟨243, 275, rfl, rfl, lw_caseOf hi hX (p_caseOf hd hok hx hm) kk⟩
  · exact ⟨256, 288, rfl, rfl, lw_court hi hX (p_court hd hok hx hm) kk⟩
  · exact ⟨289, 321, rfl, rfl, lw_point hi hX (p_point hd hok hx hm) kk⟩
  · exact ⟨322, 354, rfl, rfl, lw_kind hi hX (p_kind hd hok hx hm) kk⟩
  · exact ⟨365, 397, rfl, rfl, lw_lowest hi hX (p_lowest hd hok hx hm) kk⟩
  · exact ⟨408, 440, rfl, rfl, lw_set hi hX (p_set hd hok hx hm) kk⟩
  · exact ⟨441, 473, rfl, rfl, lw_back hi hX (p_back hd hok hx hm) kk⟩
  · exact ⟨454, 486, rfl, rfl, lw_down hi hX (p_down hd hok hx hm) kk⟩
  · exact ⟨487, 519, rfl, rfl, lw_turns hi hX (p_turns hd hok hx hm) kk⟩
  · exact ⟨510, 542, rfl, rfl, lw_costs hi hX (p_costs hd hok hx hm) kk⟩
  · exact ⟨533, 565, rfl, rfl, lw_up hi hX (p_up hd hok hx hm) kk⟩
  · exact ⟨546, 578, rfl, rfl, lw_round hi hX (p_round hd hok hx hm) kk⟩
  · exact ⟨569, 601, rfl, rfl, lw_appeals hi hX (p_appeals hd hok hx hm) kk⟩
  · exact ⟨592, 624, rfl, rfl, lw_press hi hX (p_press hd hok hx hm) kk⟩
  · exact ⟨615, 647, rfl, rfl, lw_turnsBy hi hX (p_turnsBy hd hok hx hm) kk⟩
  · exact ⟨648, 680, rfl, rfl, lw_standsFast hi hX (p_standsFast hd hok hx hm) kk⟩
  · exact ⟨661, 693, rfl, rfl, lw_survive hi hX (p_survive hd hok hx hm) kk⟩
  · exact ⟨684, 716, rfl, rfl, lw_fits hi hX (p_fits hd hok hx hm) kk⟩
  · exact ⟨707, 739, rfl, rfl, lw_first hi hX (p_first hd hok hx hm) kk⟩
  · exact ⟨730, 762, rfl, rfl, lw_apart hi hX (p_apart hd hok hx hm) kk⟩
  · exact ⟨773, 805, rfl, rfl, lw_treaty hi hX (p_treaty hd hok hx hm) kk⟩
  · exact ⟨806, 838, rfl, rfl, lw_share hi hX (p_share hd hok hx hm) kk⟩
  · exact ⟨829, 861, rfl, rfl, lw_bedtime hi hX (p_bedtime hd hok hx hm) kk⟩
  · exact ⟨863, 895, rfl, rfl, lw_order hi hX (p_order hd hok hx hm) kk⟩
  · exact ⟨876, 908, rfl, rfl, lw_bestOrder hi hX (p_bestOrder hd hok hx hm) kk⟩
  · exact ⟨899, 931, rfl, rfl, lw_needed hi hX (p_needed hd hok hx hm) kk⟩
  · exact ⟨922, 954, rfl, rfl, lw_cheapest hi hX (p_cheapest hd hok hx hm) kk⟩
  · exact ⟨935, 967, rfl, rfl, lw_biggest hi hX (p_biggest hd hok hx hm) kk⟩
  · exact ⟨958, 990, rfl, rfl, lw_swing hi hX (p_swing hd hok hx hm) kk⟩
  · exact ⟨971, 1003, rfl, rfl, lw_rounds hi hX (p_rounds hd hok hx hm) kk⟩
  · exact ⟨984, 1016, rfl, rfl, lw_worst hi hX (p_worst hd hok hx hm) kk⟩
  · exact ⟨1017, 1049, rfl, rfl, lw_same hi hX (p_same hd hok hx hm) kk⟩
  · exact ⟨1030, 1062, rfl, rfl, lw_dead hi hX (p_dead hd hok hx hm) kk⟩
  · exact ⟨1043, 1075, rfl, rfl, lw_flip hi hX (p_flip hd hok hx hm) kk⟩
  · exact ⟨1066, 1098, rfl, rfl, lw_margin hi hX (p_margin hd hok hx hm) kk⟩
  · exact ⟨1079, 1111, rfl, rfl, lw_beats hi hX (p_beats hd hok hx hm) kk⟩
  · exact ⟨1092, 1124, rfl, rfl, lw_commute hi hX (p_commute hd hok hx hm) kk⟩
  · exact ⟨1125, 1157, rfl, rfl, lw_again hi hX (p_again hd hok hx hm) kk⟩
  · exact ⟨1158, 1190, rfl, rfl, lw_bestLowest hi hX (p_bestLowest hd hok hx hm) kk⟩
  · exact ⟨1181, 1213, rfl, rfl, lw_peak hi hX (p_peak hd hok hx hm) kk⟩
  · exact ⟨1204, 1236, rfl, rfl, lw_fullStake hi hX (p_fullStake hd hok hx hm) kk⟩
  · exact ⟨1217, 1249, rfl, rfl, lw_heard hi hX (p_heard hd hok hx hm) kk⟩
  · exact ⟨1230, 1262, rfl, rfl, lw_lastSay hi hX (p_lastSay hd hok hx hm) kk⟩
  · exact ⟨1243, 1275, rfl, rfl, lw_row hi hX (p_row hd hok hx hm) kk⟩
  · exact ⟨1266, 1298, rfl, rfl, lw_judge hi hX (p_judge hd hok hx hm) kk⟩
  · exact ⟨1279, 1311, rfl, rfl, lw_clear hi hX (p_clear hd hok hx hm) kk⟩
  · exact ⟨1292, 1324, rfl, rfl, lw_lots hi hX (p_lots hd hok hx hm) kk⟩
  · exact ⟨1335, 1367, rfl, rfl, lw_image hi hX (p_image hd hok hx hm) kk⟩
  · exact ⟨1348, 1380, rfl, rfl, lw_restore hi hX (p_restore hd hok hx hm) kk⟩
  · exact ⟨1361, 1393, rfl, rfl, lw_count hi hX (p_count hd hok hx hm) kk⟩
theorem law_loop {d : Nat} {X : pX} (hd : 12 ≤ d) (hX : X.1 ≤ 2048) : ∀ (r i : Nat) (g : pG), X.1 ≤ i + r → i ≤ X.1 + 4 → BOTH g → EL d X 18 (lwL i) [] g := by
  have hw : w32 (X.1 : Int) = (X.1 : Int) := w32_of (by omega) (by omega)
  have e4 : w32 ((X.1 : Int) - 4) = (X.1 : Int) - 4 := w32_of (by omega) (by omega)
  have out : ∀ (i : Nat) (g : pG), EL d X 1422 (lwL i) [] g := fun i g => wp_iconst dL_law_1422 (by decide +kernel) (wp_zret dL_law_1423 rfl (Or.inr rfl) rfl)
  have head : ∀ (i : Nat) (g : pG), ((i : Int) ≤ (X.1 : Int) - 4 → EL d X 26 (lwL i) [] g) → EL d X 18 (lwL i) [] g := by
    intro i g k
    refine wp_iload_n (x := (i : Int)) dL_law_18 rfl (wp_aload_n dL_law_19 rfl rfl (wp_slen dL_law_20 rfl hw (wp_iconst dL_law_21 (by decide +kernel) (wp_isub dL_law_22 ?_))))
    rw [e4]
    exact wp_icmp_gt (tgt := 1422) dL_law_23 rfl (fun _ => out i g) (fun c => k (Int.not_lt.mp c))
  intro r
  induction r with
  | zero => intro i g h1 _ _; exact head i g (fun c => absurd c (by omega))
  | succ r ih =>
    intro i g h1 h2 hB
    refine head i g (fun c => law_body hd (by omega) hX hB (fun g' hB' => ?_))
    have e : w32 ((i : Int) + 4) = ((i + 4 : Nat) : Int) := by rw [w32_of (by omega) (by omega)]; omega
    refine wp_iinc (x := (i : Int)) dL_law_1416 rfl (Nat.le_of_ble_eq_true rfl) (pp (c := 2) rfl rfl) ?_
    rw [e]
    exact wp_goto (tgt := 18) dL_law_1419 rfl (ih (i + 4) g' (by omega) (by omega) hB')
def g00 : pG := fun _ _ => 0
def G00 : pG := vIn8 (sN 45 (vIn7 (sN 0 g00)))
def K00 : tK := (0, fun _ => 0, fun _ => 0, fun _ => 0, 4, fun _ => 0, 100, 6)
def st00 : tSt := (K00, (0, fun _ => 0), (0, fun _ => 0), fun _ => 0, (0, K00), (0, fun _ => K00))
theorem K00_ok : KOK K00 := by
  refine ⟨Nat.zero_le _, fun k hk => absurd hk (Nat.not_lt_zero k), by decide, fun k hk => ?_, fun k _ _ => rfl, by decide, by decide⟩
  show (-9 : Int) ≤ 0 ∧ (0 : Int) ≤ 9
  decide
theorem st00_ok : OKst st00 := ⟨K00_ok, ⟨Nat.zero_le _, fun i hi => absurd hi (Nat.not_lt_zero i)⟩, Or.inl rfl, fun _ => K00_ok, Nat.zero_le _, fun _ _ => K00_ok, rfl⟩
theorem IX00 : IX G00 st00 := by
  refine ⟨⟨by decide +kernel, fun k hk => absurd hk (Nat.not_lt_zero k), by decide +kernel, by decide +kernel, by decide +kernel, by decide +kernel⟩, ⟨by decide +kernel, fun i hi => absurd hi (Nat.not_lt_zero i)⟩, ⟨by decide +kernel, Nat.zero_le _, fun i hi => absurd hi (Nat.not_lt_zero i)⟩, by decide +kernel, ⟨by decide +kernel, fun h => absurd h (by decide)⟩, ⟨by decide +kernel, fun i hi => absurd hi (Nat.not_lt_zero i)⟩⟩
theorem IM00 : IM G00 st00 := by
  refine ⟨⟨by decide +kernel, fun k hk => absurd hk (Nat.not_lt_zero k), by decide +kernel, by decide +kernel, by decide +kernel, by decide +kernel⟩, ⟨by decide +kernel, fun i hi => absurd hi (Nat.not_lt_zero i)⟩, ⟨by decide +kernel, Nat.zero_le _, fun i hi => absurd hi (Nat.not_lt_zero i)⟩, by decide +kernel, ⟨by decide +kernel, fun h => absurd h (by decide)⟩, ⟨by decide +kernel, fun i hi => absurd hi (Nat.not_lt_zero i)⟩⟩
set_option maxRecDepth 100000 in
theorem law_all {d : Nat} {X : pX} (hd : 12 ≤ d) (hX : X.1 ≤ 2048) : Ev (Ex d) X mL_law LAY LQ 0 [vX 1, vX 2, vX 2, vX 2] [] [] g00 := by
  refine wp_new dL_law_0 nl_9_7 (Nat.le_of_ble_eq_true rfl) (Nat.le_of_ble_eq_true rfl) (wp_dup dL_law_3 rfl ?_)
  refine wp_init (As := []) (yy := zIn7) (R := fun g' => g' = vIn7 (sN 0 g00)) dL_law_4 ml_9_9 (Or.inl rfl) rfl rfl (by decide) rfl (Nat.le_of_ble_eq_true rfl) (Nat.le_of_ble_eq_true rfl) (Nat.le_of_ble_eq_true rfl) (Nat.le_of_ble_eq_true rfl) (i_X7 (y0 := []) (by omega) rfl) (fun gg hg => ?_)
  subst hg
  refine wp_astore_n dL_law_7 rfl (Nat.le_of_ble_eq_true rfl) (pp (c := 0) rfl rfl) ?_
  refine wp_new dL_law_8 nl_9_10 (Nat.le_of_ble_eq_true rfl) (Nat.le_of_ble_eq_true rfl) (wp_dup dL_law_11 rfl ?_)
  refine wp_init (As := []) (yy := LAY) (R := fun g' => g' = G00) dL_law_12 ml_9_12 (Or.inl rfl) rfl rfl (by decide) rfl (Nat.le_of_ble_eq_true rfl) (Nat.le_of_ble_eq_true rfl) (Nat.le_refl _) (Nat.le_refl _) ?_ (fun gg hg => ?_)
  · have h := i_X8 (d := d) (y0 := zIn7) (g := sN 45 (vIn7 (sN 0 g00))) (by omega) rfl
    rw [zLAY] at h
    exact h
  · subst hg
    refine wp_astore_n dL_law_15 rfl (Nat.le_of_ble_eq_true rfl) (pp (c := 1) rfl rfl) ?_
    refine wp_iconst dL_law_16 (by decide +kernel) (wp_istore_n dL_law_17 (Nat.le_of_ble_eq_true rfl) (pp (c := 2) rfl rfl) ?_)
    exact law_loop hd hX X.1 0 G00 (by omega) (by omega) ⟨st00, st00_ok, IX00, IM00⟩
