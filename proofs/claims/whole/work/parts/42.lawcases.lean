section LC
variable {p : Program} {l : Launch} {e : Env} {s : State} {m : MethodId} {below : List Frame} {meth : Method} {c : Code} {w : gWd} {A : Nat → Prop} {Q : State → Prop} {Ex : Heap → Prop} {b Ls : Nat} {xs : Nat → Int32} {aK aV : Nat → Nat} {Inv : gSt → Prop} {σ : gSt} {ce sl i qo : Nat} {x5 x6 : Option Value}
theorem case_0 (X : LX p s m meth c w A b Ls xs) (hEx : gKeep w Ex) (hi : i + 6 ≤ Ls) (hcs : ce ≤ room_1.cells ∧ sl ≤ room_1.slots) (hs : SS5 Inv f_X11_feed f_X12_feed) (hI : Inv σ) (kk : ∀ σ', Inv σ' → GL p l e room_1 s m #[Value.ref b] below meth c 7 w A Q Ex 1992 [some (.ref b), some (.ref (w.2.1 0 0)), some (.ref (w.2.1 28 0)), some (.ref qo), some (.int (nI i)), x5, x6] [] σ' ce sl) : GL p l e room_1 s m #[Value.ref b] below meth c 7 w A Q Ex 252 [some (.ref b), some (.ref (w.2.1 0 0)), some (.ref (w.2.1 28 0)), some (.ref qo), some (.int (nI i)), x5, x6] [] σ ce sl := by
  obtain ⟨F, hX, hbl, hbA, hL⟩ := X
  obtain ⟨r1, r2, h1, h2, he, hI2⟩ := hs (xs (i + 1)) (xs (i + 2)) (xs (i + 3)) (xs (i + 4)) (xs (i + 5)) σ hI
  refine l_aload_n F dL_law_252 rfl ?_
  refine l_arg (j := 1) F hX hbl hbA (by omega) hL rfl rfl rfl kc_1 nc_1.symm dL_law_253 dL_law_254 dL_law_256 dL_law_257 dL_law_258 ?_
  refine l_arg (j := 2) F hX hbl hbA (by omega) hL rfl rfl rfl kc_2 nc_2.symm dL_law_259 dL_law_260 dL_law_262 dL_law_263 dL_law_264 ?_
  refine l_arg (j := 3) F hX hbl hbA (by omega) hL rfl rfl rfl kc_3 nc_3.symm dL_law_265 dL_law_266 dL_law_268 dL_law_269 dL_law_270 ?_
  refine l_arg (j := 4) F hX hbl hbA (by omega) hL rfl rfl rfl kc_4 nc_4.symm dL_law_271 dL_law_272 dL_law_274 dL_law_275 dL_law_276 ?_
  refine l_arg (j := 5) F hX hbl hbA (by omega) hL rfl rfl rfl kc_5 nc_5.symm dL_law_277 dL_law_278 dL_law_280 dL_law_281 dL_law_282 ?_
  refine l_callI (As := [.int (xs (i + 1)), .int (xs (i + 2)), .int (xs (i + 3)), .int (xs (i + 4)), .int (xs (i + 5))]) F hEx mv_L_19 (f_X11_feed_ok h1) rfl rfl ok_0 ⟨Nat.le_of_ble_eq_true rfl, Nat.le_of_ble_eq_true rfl⟩ (Nat.le_of_ble_eq_true rfl) hcs dL_law_283 ?_
  refine l_aload_n F dL_law_286 rfl ?_
  refine l_arg (j := 1) F hX hbl hbA (by omega) hL rfl rfl rfl kc_1 nc_1.symm dL_law_287 dL_law_288 dL_law_290 dL_law_291 dL_law_292 ?_
  refine l_arg (j := 2) F hX hbl hbA (by omega) hL rfl rfl rfl kc_2 nc_2.symm dL_law_293 dL_law_294 dL_law_296 dL_law_297 dL_law_298 ?_
  refine l_arg (j := 3) F hX hbl hbA (by omega) hL rfl rfl rfl kc_3 nc_3.symm dL_law_299 dL_law_300 dL_law_302 dL_law_303 dL_law_304 ?_
  refine l_arg (j := 4) F hX hbl hbA (by omega) hL rfl rfl rfl kc_4 nc_4.symm dL_law_305 dL_law_306 dL_law_308 dL_law_309 dL_law_310 ?_
  refine l_arg (j := 5) F hX hbl hbA (by omega) hL rfl rfl rfl kc_5 nc_5.symm dL_law_311 dL_law_312 dL_law_314 dL_law_315 dL_law_316 ?_
  refine l_callI (As := [.int (xs (i + 1)), .int (xs (i + 2)), .int (xs (i + 3)), .int (xs (i + 4)), .int (xs (i + 5))]) F hEx mv_L_23 (f_X12_feed_ok h2) rfl rfl ok_28 ⟨Nat.le_of_ble_eq_true rfl, Nat.le_of_ble_eq_true rfl⟩ (Nat.le_of_ble_eq_true rfl) hcs dL_law_317 ?_
  refine l_icmp_eq F 1992 dL_law_320 rfl (fun _ => ?_) (fun q => absurd he q)
  exact kk _ hI2
theorem case_1 (hW : gEnv w aK aV) (X : LX p s m meth c w A b Ls xs) (hEx : gKeep w Ex) (hi : i + 6 ≤ Ls) (hcs : ce ≤ room_1.cells ∧ sl ≤ room_1.slots) (hs : SS1 Inv f_X11_text f_X12_text) (hI : Inv σ) (kk : ∀ σ', Inv σ' → GL p l e room_1 s m #[Value.ref b] below meth c 7 w A Q Ex 1992 [some (.ref b), some (.ref (w.2.1 0 0)), some (.ref (w.2.1 28 0)), some (.ref qo), some (.int (nI i)), x5, x6] [] σ' ce sl) : GL p l e room_1 s m #[Value.ref b] below meth c 7 w A Q Ex 325 [some (.ref b), some (.ref (w.2.1 0 0)), some (.ref (w.2.1 28 0)), some (.ref qo), some (.int (nI i)), x5, x6] [] σ ce sl := by
  obtain ⟨F, hX, hbl, hbA, hL⟩ := X
  obtain ⟨r1, r2, h1, h2, he, hI2⟩ := hs (xs (i + 1)) σ hI
  refine l_aload_n F dL_law_325 rfl ?_
  refine l_arg (j := 1) F hX hbl hbA (by omega) hL rfl rfl rfl kc_1 nc_1.symm dL_law_326 dL_law_327 dL_law_329 dL_law_330 dL_law_331 ?_
  refine l_callI (As := [.int (xs (i + 1))]) F hEx mv_L_24 (f_X11_text_ok h1) rfl rfl ok_0 ⟨Nat.le_of_ble_eq_true rfl, Nat.le_of_ble_eq_true rfl⟩ (Nat.le_of_ble_eq_true rfl) hcs dL_law_332 ?_
  refine l_aload_n F dL_law_335 rfl ?_
  refine l_arg (j := 1) F hX hbl hbA (by omega) hL rfl rfl rfl kc_1 nc_1.symm dL_law_336 dL_law_337 dL_law_339 dL_law_340 dL_law_341 ?_
  refine l_callI (As := [.int (xs (i + 1))]) F hEx mv_L_28 (f_X12_text_ok hW h2) rfl rfl ok_28 ⟨Nat.le_of_ble_eq_true rfl, Nat.le_of_ble_eq_true rfl⟩ (Nat.le_of_ble_eq_true rfl) hcs dL_law_342 ?_
  refine l_icmp_eq F 1992 dL_law_345 rfl (fun _ => ?_) (fun q => absurd he q)
  exact kk _ hI2
theorem case_2 (X : LX p s m meth c w A b Ls xs) (hEx : gKeep w Ex) (hi : i + 6 ≤ Ls) (hcs : ce ≤ room_1.cells ∧ sl ≤ room_1.slots) (hs : SS0 Inv f_X11_fault f_X12_fault) (hI : Inv σ) (kk : ∀ σ', Inv σ' → GL p l e room_1 s m #[Value.ref b] below meth c 7 w A Q Ex 1992 [some (.ref b), some (.ref (w.2.1 0 0)), some (.ref (w.2.1 28 0)), some (.ref qo), some (.int (nI i)), x5, x6] [] σ' ce sl) : GL p l e room_1 s m #[Value.ref b] below meth c 7 w A Q Ex 350 [some (.ref b), some (.ref (w.2.1 0 0)), some (.ref (w.2.1 28 0)), some (.ref qo), some (.int (nI i)), x5, x6] [] σ ce sl := by
  obtain ⟨F, hX, hbl, hbA, hL⟩ := X
  obtain ⟨r1, r2, h1, h2, he, hI2⟩ := hs  σ hI
  refine l_aload_n F dL_law_350 rfl ?_
  refine l_callI (As := []) F hEx mv_L_29 (f_X11_fault_ok h1) rfl rfl ok_0 ⟨Nat.le_of_ble_eq_true rfl, Nat.le_of_ble_eq_true rfl⟩ (Nat.le_of_ble_eq_true rfl) hcs dL_law_351 ?_
  refine l_aload_n F dL_law_354 rfl ?_
  refine l_callI (As := []) F hEx mv_L_33 (f_X12_fault_ok h2) rfl rfl ok_28 ⟨Nat.le_of_ble_eq_true rfl, Nat.le_of_ble_eq_true rfl⟩ (Nat.le_of_ble_eq_true rfl) hcs dL_law_355 ?_
  refine l_icmp_eq F 1992 dL_law_358 rfl (fun _ => ?_) (fun q => absurd he q)
  exact kk _ hI2
theorem case_3 (X : LX p s m meth c w A b Ls xs) (hEx : gKeep w Ex) (hi : i + 6 ≤ Ls) (hcs : ce ≤ room_1.cells ∧ sl ≤ room_1.slots) (hs : SS0 Inv f_X11_where f_X12_where) (hI : Inv σ) (kk : ∀ σ', Inv σ' → GL p l e room_1 s m #[Value.ref b] below meth c 7 w A Q Ex 1992 [some (.ref b), some (.ref (w.2.1 0 0)), some (.ref (w.2.1 28 0)), some (.ref qo), some (.int (nI i)), x5, x6] [] σ' ce sl) : GL p l e room_1 s m #[Value.ref b] below meth c 7 w A Q Ex 363 [some (.ref b), some (.ref (w.2.1 0 0)), some (.ref (w.2.1 28 0)), some (.ref qo), some (.int (nI i)), x5, x6] [] σ ce sl := by
  obtain ⟨F, hX, hbl, hbA, hL⟩ := X
  obtain ⟨r1, r2, h1, h2, he, hI2⟩ := hs  σ hI
  refine l_aload_n F dL_law_363 rfl ?_
  refine l_callI (As := []) F hEx mv_L_34 (f_X11_where_ok h1) rfl rfl ok_0 ⟨Nat.le_of_ble_eq_true rfl, Nat.le_of_ble_eq_true rfl⟩ (Nat.le_of_ble_eq_true rfl) hcs dL_law_364 ?_
  refine l_aload_n F dL_law_367 rfl ?_
  refine l_callI (As := []) F hEx mv_L_37 (f_X12_where_ok h2) rfl rfl ok_28 ⟨Nat.le_of_ble_eq_true rfl, Nat.le_of_ble_eq_true rfl⟩ (Nat.le_of_ble_eq_true rfl) hcs dL_law_368 ?_
  refine l_icmp_eq F 1992 dL_law_371 rfl (fun _ => ?_) (fun q => absurd he q)
  exact kk _ hI2
theorem case_4 (X : LX p s m meth c w A b Ls xs) (hEx : gKeep w Ex) (hi : i + 6 ≤ Ls) (hcs : ce ≤ room_1.cells ∧ sl ≤ room_1.slots) (hs : SS1 Inv f_X11_about f_X12_about) (hI : Inv σ) (kk : ∀ σ', Inv σ' → GL p l e room_1 s m #[Value.ref b] below meth c 7 w A Q Ex 1992 [some (.ref b), some (.ref (w.2.1 0 0)), some (.ref (w.2.1 28 0)), some (.ref qo), some (.int (nI i)), x5, x6] [] σ' ce sl) : GL p l e room_1 s m #[Value.ref b] below meth c 7 w A Q Ex 376 [some (.ref b), some (.ref (w.2.1 0 0)), some (.ref (w.2.1 28 0)), some (.ref qo), some (.int (nI i)), x5, x6] [] σ ce sl := by
  obtain ⟨F, hX, hbl, hbA, hL⟩ := X
  obtain ⟨r1, r2, h1, h2, he, hI2⟩ := hs (xs (i + 1)) σ hI
  refine l_aload_n F dL_law_376 rfl ?_
  refine l_arg (j := 1) F hX hbl hbA (by omega) hL rfl rfl rfl kc_1 nc_1.symm dL_law_377 dL_law_378 dL_law_380 dL_law_381 dL_law_382 ?_
  refine l_callI (As := [.int (xs (i + 1))]) F hEx mv_L_38 (f_X11_about_ok h1) rfl rfl ok_0 ⟨Nat.le_of_ble_eq_true rfl, Nat.le_of_ble_eq_true rfl⟩ (Nat.le_of_ble_eq_true rfl) hcs dL_law_383 ?_
  refine l_aload_n F dL_law_386 rfl ?_
  refine l_arg (j := 1) F hX hbl hbA (by omega) hL rfl rfl rfl kc_1 nc_1.symm dL_law_387 dL_law_388 dL_law_390 dL_law_391 dL_law_392 ?_
  refine l_callI (As := [.int (xs (i + 1))]) F hEx mv_L_41 (f_X12_about_ok h2) rfl rfl ok_28 ⟨Nat.le_of_ble_eq_true rfl, Nat.le_of_ble_eq_true rfl⟩ (Nat.le_of_ble_eq_true rfl) hcs dL_law_393 ?_
  refine l_icmp_eq F 1992 dL_law_396 rfl (fun _ => ?_) (fun q => absurd he q)
  exact kk _ hI2
theorem case_5 (X : LX p s m meth c w A b Ls xs) (hEx : gKeep w Ex) (hi : i + 6 ≤ Ls) (hcs : ce ≤ room_1.cells ∧ sl ≤ room_1.slots) (hs : SS2 Inv f_X11_course f_X12_course) (hI : Inv σ) (kk : ∀ σ', Inv σ' → GL p l e room_1 s m #[Value.ref b] below meth c 7 w A Q Ex 1992 [some (.ref b), some (.ref (w.2.1 0 0)), some (.ref (w.2.1 28 0)), some (.ref qo), some (.int (nI i)), x5, x6] [] σ' ce sl) : GL p l e room_1 s m #[Value.ref b] below meth c 7 w A Q Ex 401 [some (.ref b), some (.ref (w.2.1 0 0)), some (.ref (w.2.1 28 0)), some (.ref qo), some (.int (nI i)), x5, x6] [] σ ce sl := by
  obtain ⟨F, hX, hbl, hbA, hL⟩ := X
  obtain ⟨r1, r2, h1, h2, he, hI2⟩ := hs (xs (i + 1)) (xs (i + 2)) σ hI
  refine l_aload_n F dL_law_401 rfl ?_
  refine l_arg (j := 1) F hX hbl hbA (by omega) hL rfl rfl rfl kc_1 nc_1.symm dL_law_402 dL_law_403 dL_law_405 dL_law_406 dL_law_407 ?_
  refine l_arg (j := 2) F hX hbl hbA (by omega) hL rfl rfl rfl kc_2 nc_2.symm dL_law_408 dL_law_409 dL_law_411 dL_law_412 dL_law_413 ?_
  refine l_callI (As := [.int (xs (i + 1)), .int (xs (i + 2))]) F hEx mv_L_42 (f_X11_course_ok h1) rfl rfl ok_0 ⟨Nat.le_of_ble_eq_true rfl, Nat.le_of_ble_eq_true rfl⟩ (Nat.le_of_ble_eq_true rfl) hcs dL_law_414 ?_
  refine l_aload_n F dL_law_417 rfl ?_
  refine l_arg (j := 1) F hX hbl hbA (by omega) hL rfl rfl rfl kc_1 nc_1.symm dL_law_418 dL_law_419 dL_law_421 dL_law_422 dL_law_423 ?_
  refine l_arg (j := 2) F hX hbl hbA (by omega) hL rfl rfl rfl kc_2 nc_2.symm dL_law_424 dL_law_425 dL_law_427 dL_law_428 dL_law_429 ?_
  refine l_callI (As := [.int (xs (i + 1)), .int (xs (i + 2))]) F hEx mv_L_46 (f_X12_course_ok h2) rfl rfl ok_28 ⟨Nat.le_of_ble_eq_true rfl, Nat.le_of_ble_eq_true rfl⟩ (Nat.le_of_ble_eq_true rfl) hcs dL_law_430 ?_
  refine l_icmp_eq F 1992 dL_law_433 rfl (fun _ => ?_) (fun q => absurd he q)
  exact kk _ hI2
theorem case_6 (X : LX p s m meth c w A b Ls xs) (hEx : gKeep w Ex) (hi : i + 6 ≤ Ls) (hcs : ce ≤ room_1.cells ∧ sl ≤ room_1.slots) (hs : SS2 Inv f_X11_code f_X12_code) (hI : Inv σ) (kk : ∀ σ', Inv σ' → GL p l e room_1 s m #[Value.ref b] below meth c 7 w A Q Ex 1992 [some (.ref b), some (.ref (w.2.1 0 0)), some (.ref (w.2.1 28 0)), some (.ref qo), some (.int (nI i)), x5, x6] [] σ' ce sl) : GL p l e room_1 s m #[Value.ref b] below meth c 7 w A Q Ex 438 [some (.ref b), some (.ref (w.2.1 0 0)), some (.ref (w.2.1 28 0)), some (.ref qo), some (.int (nI i)), x5, x6] [] σ ce sl := by
  obtain ⟨F, hX, hbl, hbA, hL⟩ := X
  obtain ⟨r1, r2, h1, h2, he, hI2⟩ := hs (xs (i + 1)) (xs (i + 2)) σ hI
  refine l_aload_n F dL_law_438 rfl ?_
  refine l_arg (j := 1) F hX hbl hbA (by omega) hL rfl rfl rfl kc_1 nc_1.symm dL_law_439 dL_law_440 dL_law_442 dL_law_443 dL_law_444 ?_
  refine l_arg (j := 2) F hX hbl hbA (by omega) hL rfl rfl rfl kc_2 nc_2.symm dL_law_445 dL_law_446 dL_law_448 dL_law_449 dL_law_450 ?_
  refine l_callI (As := [.int (xs (i + 1)), .int (xs (i + 2))]) F hEx mv_L_47 (f_X11_code_ok h1) rfl rfl ok_0 ⟨Nat.le_of_ble_eq_true rfl, Nat.le_of_ble_eq_true rfl⟩ (Nat.le_of_ble_eq_true rfl) hcs dL_law_451 ?_
  refine l_aload_n F dL_law_454 rfl ?_
  refine l_arg (j := 1) F hX hbl hbA (by omega) hL rfl rfl rfl kc_1 nc_1.symm dL_law_455 dL_law_456 dL_law_458 dL_law_459 dL_law_460 ?_
  refine l_arg (j := 2) F hX hbl hbA (by omega) hL rfl rfl rfl kc_2 nc_2.symm dL_law_461 dL_law_462 dL_law_464 dL_law_465 dL_law_466 ?_
  refine l_callI (As := [.int (xs (i + 1)), .int (xs (i + 2))]) F hEx mv_L_50 (f_X12_code_ok h2) rfl rfl ok_28 ⟨Nat.le_of_ble_eq_true rfl, Nat.le_of_ble_eq_true rfl⟩ (Nat.le_of_ble_eq_true rfl) hcs dL_law_467 ?_
  refine l_icmp_eq F 1992 dL_law_470 rfl (fun _ => ?_) (fun q => absurd he q)
  exact kk _ hI2
theorem case_7 (X : LX p s m meth c w A b Ls xs) (hEx : gKeep w Ex) (hi : i + 6 ≤ Ls) (hcs : ce ≤ room_1.cells ∧ sl ≤ room_1.slots) (hs : SS2 Inv f_X11_runner f_X12_runner) (hI : Inv σ) (kk : ∀ σ', Inv σ' → GL p l e room_1 s m #[Value.ref b] below meth c 7 w A Q Ex 1992 [some (.ref b), some (.ref (w.2.1 0 0)), some (.ref (w.2.1 28 0)), some (.ref qo), some (.int (nI i)), x5, x6] [] σ' ce sl) : GL p l e room_1 s m #[Value.ref b] below meth c 7 w A Q Ex 475 [some (.ref b), some (.ref (w.2.1 0 0)), some (.ref (w.2.1 28 0)), some (.ref qo), some (.int (nI i)), x5, x6] [] σ ce sl := by
  obtain ⟨F, hX, hbl, hbA, hL⟩ := X
  obtain ⟨r1, r2, h1, h2, he, hI2⟩ := hs (xs (i + 1)) (xs (i + 2)) σ hI
  refine l_aload_n F dL_law_475 rfl ?_
  refine l_arg (j := 1) F hX hbl hbA (by omega) hL rfl rfl rfl kc_1 nc_1.symm dL_law_476 dL_law_477 dL_law_479 dL_law_480 dL_law_481 ?_
  refine l_arg (j := 2) F hX hbl hbA (by omega) hL rfl rfl rfl kc_2 nc_2.symm dL_law_482 dL_law_483 dL_law_485 dL_law_486 dL_law_487 ?_
  refine l_callI (As := [.int (xs (i + 1)), .int (xs (i + 2))]) F hEx mv_L_51 (f_X11_runner_ok h1) rfl rfl ok_0 ⟨Nat.le_of_ble_eq_true rfl, Nat.le_of_ble_eq_true rfl⟩ (Nat.le_of_ble_eq_true rfl) hcs dL_law_488 ?_
  refine l_aload_n F dL_law_491 rfl ?_
  refine l_arg (j := 1) F hX hbl hbA (by omega) hL rfl rfl rfl kc_1 nc_1.symm dL_law_492 dL_law_493 dL_law_495 dL_law_496 dL_law_497 ?_
  refine l_arg (j := 2) F hX hbl hbA (by omega) hL rfl rfl rfl kc_2 nc_2.symm dL_law_498 dL_law_499 dL_law_501 dL_law_502 dL_law_503 ?_
  refine l_callI (As := [.int (xs (i + 1)), .int (xs (i + 2))]) F hEx mv_L_54 (f_X12_runner_ok h2) rfl rfl ok_28 ⟨Nat.le_of_ble_eq_true rfl, Nat.le_of_ble_eq_true rfl⟩ (Nat.le_of_ble_eq_true rfl) hcs dL_law_504 ?_
  refine l_icmp_eq F 1992 dL_law_507 rfl (fun _ => ?_) (fun q => absurd he q)
  exact kk _ hI2
theorem case_8 (X : LX p s m meth c w A b Ls xs) (hEx : gKeep w Ex) (hi : i + 6 ≤ Ls) (hcs : ce ≤ room_1.cells ∧ sl ≤ room_1.slots) (hs : SS3 Inv f_X11_punch f_X12_punch) (hI : Inv σ) (kk : ∀ σ', Inv σ' → GL p l e room_1 s m #[Value.ref b] below meth c 7 w A Q Ex 1992 [some (.ref b), some (.ref (w.2.1 0 0)), some (.ref (w.2.1 28 0)), some (.ref qo), some (.int (nI i)), x5, x6] [] σ' ce sl) : GL p l e room_1 s m #[Value.ref b] below meth c 7 w A Q Ex 512 [some (.ref b), some (.ref (w.2.1 0 0)), some (.ref (w.2.1 28 0)), some (.ref qo), some (.int (nI i)), x5, x6] [] σ ce sl := by
  obtain ⟨F, hX, hbl, hbA, hL⟩ := X
  obtain ⟨r1, r2, h1, h2, he, hI2⟩ := hs (xs (i + 1)) (xs (i + 2)) (xs (i + 3)) σ hI
  refine l_aload_n F dL_law_512 rfl ?_
  refine l_arg (j := 1) F hX hbl hbA (by omega) hL rfl rfl rfl kc_1 nc_1.symm dL_law_513 dL_law_514 dL_law_516 dL_law_517 dL_law_518 ?_
  refine l_arg (j := 2) F hX hbl hbA (by omega) hL rfl rfl rfl kc_2 nc_2.symm dL_law_519 dL_law_520 dL_law_522 dL_law_523 dL_law_524 ?_
  refine l_arg (j := 3) F hX hbl hbA (by omega) hL rfl rfl rfl kc_3 nc_3.symm dL_law_525 dL_law_526 dL_law_528 dL_law_529 dL_law_530 ?_
  refine l_callI (As := [.int (xs (i + 1)), .int (xs (i + 2)), .int (xs (i + 3))]) F hEx mv_L_55 (f_X11_punch_ok h1) rfl rfl ok_0 ⟨Nat.le_of_ble_eq_true rfl, Nat.le_of_ble_eq_true rfl⟩ (Nat.le_of_ble_eq_true rfl) hcs dL_law_531 ?_
  refine l_aload_n F dL_law_534 rfl ?_
  refine l_arg (j := 1) F hX hbl hbA (by omega) hL rfl rfl rfl kc_1 nc_1.symm dL_law_535 dL_law_536 dL_law_538 dL_law_539 dL_law_540 ?_
  refine l_arg (j := 2) F hX hbl hbA (by omega) hL rfl rfl rfl kc_2 nc_2.symm dL_law_541 dL_law_542 dL_law_544 dL_law_545 dL_law_546 ?_
  refine l_arg (j := 3) F hX hbl hbA (by omega) hL rfl rfl rfl kc_3 nc_3.symm dL_law_547 dL_law_548 dL_law_550 dL_law_551 dL_law_552 ?_
  refine l_callI (As := [.int (xs (i + 1)), .int (xs (i + 2)), .int (xs (i + 3))]) F hEx mv_L_59 (f_X12_punch_ok h2) rfl rfl ok_28 ⟨Nat.le_of_ble_eq_true rfl, Nat.le_of_ble_eq_true rfl⟩ (Nat.le_of_ble_eq_true rfl) hcs dL_law_553 ?_
  refine l_icmp_eq F 1992 dL_law_556 rfl (fun _ => ?_) (fun q => absurd he q)
  exact kk _ hI2
theorem case_9 (X : LX p s m meth c w A b Ls xs) (hEx : gKeep w Ex) (hi : i + 6 ≤ Ls) (hcs : ce ≤ room_1.cells ∧ sl ≤ room_1.slots) (hs : SS2 Inv f_X11_misses f_X12_misses) (hI : Inv σ) (kk : ∀ σ', Inv σ' → GL p l e room_1 s m #[Value.ref b] below meth c 7 w A Q Ex 1992 [some (.ref b), some (.ref (w.2.1 0 0)), some (.ref (w.2.1 28 0)), some (.ref qo), some (.int (nI i)), x5, x6] [] σ' ce sl) : GL p l e room_1 s m #[Value.ref b] below meth c 7 w A Q Ex 561 [some (.ref b), some (.ref (w.2.1 0 0)), some (.ref (w.2.1 28 0)), some (.ref qo), some (.int (nI i)), x5, x6] [] σ ce sl := by
  obtain ⟨F, hX, hbl, hbA, hL⟩ := X
  obtain ⟨r1, r2, h1, h2, he, hI2⟩ := hs (xs (i + 1)) (xs (i + 2)) σ hI
  refine l_aload_n F dL_law_561 rfl ?_
  refine l_arg (j := 1) F hX hbl hbA (by omega) hL rfl rfl rfl kc_1 nc_1.symm dL_law_562 dL_law_563 dL_law_565 dL_law_566 dL_law_567 ?_
  refine l_arg (j := 2) F hX hbl hbA (by omega) hL rfl rfl rfl kc_2 nc_2.symm dL_law_568 dL_law_569 dL_law_571 dL_law_572 dL_law_573 ?_
  refine l_callI (As := [.int (xs (i + 1)), .int (xs (i + 2))]) F hEx mv_L_60 (f_X11_misses_ok h1) rfl rfl ok_0 ⟨Nat.le_of_ble_eq_true rfl, Nat.le_of_ble_eq_true rfl⟩ (Nat.le_of_ble_eq_true rfl) hcs dL_law_574 ?_
  refine l_aload_n F dL_law_577 rfl ?_
  refine l_arg (j := 1) F hX hbl hbA (by omega) hL rfl rfl rfl kc_1 nc_1.symm dL_law_578 dL_law_579 dL_law_581 dL_law_582 dL_law_583 ?_
  refine l_arg (j := 2) F hX hbl hbA (by omega) hL rfl rfl rfl kc_2 nc_2.symm dL_law_584 dL_law_585 dL_law_587 dL_law_588 dL_law_589 ?_
  refine l_callI (As := [.int (xs (i + 1)), .int (xs (i + 2))]) F hEx mv_L_63 (f_X12_misses_ok h2) rfl rfl ok_28 ⟨Nat.le_of_ble_eq_true rfl, Nat.le_of_ble_eq_true rfl⟩ (Nat.le_of_ble_eq_true rfl) hcs dL_law_590 ?_
  refine l_icmp_eq F 1992 dL_law_593 rfl (fun _ => ?_) (fun q => absurd he q)
  exact kk _ hI2
theorem case_10 (X : LX p s m meth c w A b Ls xs) (hEx : gKeep w Ex) (hi : i + 6 ≤ Ls) (hcs : ce ≤ room_1.cells ∧ sl ≤ room_1.slots) (hs : SS1 Inv f_X11_fits f_X12_fits) (hI : Inv σ) (kk : ∀ σ', Inv σ' → GL p l e room_1 s m #[Value.ref b] below meth c 7 w A Q Ex 1992 [some (.ref b), some (.ref (w.2.1 0 0)), some (.ref (w.2.1 28 0)), some (.ref qo), some (.int (nI i)), x5, x6] [] σ' ce sl) : GL p l e room_1 s m #[Value.ref b] below meth c 7 w A Q Ex 598 [some (.ref b), some (.ref (w.2.1 0 0)), some (.ref (w.2.1 28 0)), some (.ref qo), some (.int (nI i)), x5, x6] [] σ ce sl := by
  obtain ⟨F, hX, hbl, hbA, hL⟩ := X
  obtain ⟨r1, r2, h1, h2, he, hI2⟩ := hs (xs (i + 1)) σ hI
  refine l_aload_n F dL_law_598 rfl ?_
  refine l_arg (j := 1) F hX hbl hbA (by omega) hL rfl rfl rfl kc_1 nc_1.symm dL_law_599 dL_law_600 dL_law_602 dL_law_603 dL_law_604 ?_
  refine l_callI (As := [.int (xs (i + 1))]) F hEx mv_L_64 (f_X11_fits_ok h1) rfl rfl ok_0 ⟨Nat.le_of_ble_eq_true rfl, Nat.le_of_ble_eq_true rfl⟩ (Nat.le_of_ble_eq_true rfl) hcs dL_law_605 ?_
  refine l_aload_n F dL_law_608 rfl ?_
  refine l_arg (j := 1) F hX hbl hbA (by omega) hL rfl rfl rfl kc_1 nc_1.symm dL_law_609 dL_law_610 dL_law_612 dL_law_613 dL_law_614 ?_
  refine l_callI (As := [.int (xs (i + 1))]) F hEx mv_L_67 (f_X12_fits_ok h2) rfl rfl ok_28 ⟨Nat.le_of_ble_eq_true rfl, Nat.le_of_ble_eq_true rfl⟩ (Nat.le_of_ble_eq_true rfl) hcs dL_law_615 ?_
  refine l_icmp_eq F 1992 dL_law_618 rfl (fun _ => ?_) (fun q => absurd he q)
  exact kk _ hI2
theorem case_11 (X : LX p s m meth c w A b Ls xs) (hEx : gKeep w Ex) (hi : i + 6 ≤ Ls) (hcs : ce ≤ room_1.cells ∧ sl ≤ room_1.slots) (hs : SS1 Inv f_X11_missed f_X12_missed) (hI : Inv σ) (kk : ∀ σ', Inv σ' → GL p l e room_1 s m #[Value.ref b] below meth c 7 w A Q Ex 1992 [some (.ref b), some (.ref (w.2.1 0 0)), some (.ref (w.2.1 28 0)), some (.ref qo), some (.int (nI i)), x5, x6] [] σ' ce sl) : GL p l e room_1 s m #[Value.ref b] below meth c 7 w A Q Ex 623 [some (.ref b), some (.ref (w.2.1 0 0)), some (.ref (w.2.1 28 0)), some (.ref qo), some (.int (nI i)), x5, x6] [] σ ce sl := by
  obtain ⟨F, hX, hbl, hbA, hL⟩ := X
  obtain ⟨r1, r2, h1, h2, he, hI2⟩ := hs (xs (i + 1)) σ hI
  refine l_aload_n F dL_law_623 rfl ?_
  refine l_arg (j := 1) F hX hbl hbA (by omega) hL rfl rfl rfl kc_1 nc_1.symm dL_law_624 dL_law_625 dL_law_627 dL_law_628 dL_law_629 ?_
  refine l_callI (As := [.int (xs (i + 1))]) F hEx mv_L_68 (f_X11_missed_ok h1) rfl rfl ok_0 ⟨Nat.le_of_ble_eq_true rfl, Nat.le_of_ble_eq_true rfl⟩ (Nat.le_of_ble_eq_true rfl) hcs dL_law_630 ?_
  refine l_aload_n F dL_law_633 rfl ?_
  refine l_arg (j := 1) F hX hbl hbA (by omega) hL rfl rfl rfl kc_1 nc_1.symm dL_law_634 dL_law_635 dL_law_637 dL_law_638 dL_law_639 ?_
  refine l_callI (As := [.int (xs (i + 1))]) F hEx mv_L_71 (f_X12_missed_ok h2) rfl rfl ok_28 ⟨Nat.le_of_ble_eq_true rfl, Nat.le_of_ble_eq_true rfl⟩ (Nat.le_of_ble_eq_true rfl) hcs dL_law_640 ?_
  refine l_icmp_eq F 1992 dL_law_643 rfl (fun _ => ?_) (fun q => absurd he q)
  exact kk _ hI2
theorem case_12 (X : LX p s m meth c w A b Ls xs) (hEx : gKeep w Ex) (hi : i + 6 ≤ Ls) (hcs : ce ≤ room_1.cells ∧ sl ≤ room_1.slots) (hs : SS3 Inv f_X11_split f_X12_split) (hI : Inv σ) (kk : ∀ σ', Inv σ' → GL p l e room_1 s m #[Value.ref b] below meth c 7 w A Q Ex 1992 [some (.ref b), some (.ref (w.2.1 0 0)), some (.ref (w.2.1 28 0)), some (.ref qo), some (.int (nI i)), x5, x6] [] σ' ce sl) : GL p l e room_1 s m #[Value.ref b] below meth c 7 w A Q Ex 648 [some (.ref b), some (.ref (w.2.1 0 0)), some (.ref (w.2.1 28 0)), some (.ref qo), some (.int (nI i)), x5, x6] [] σ ce sl := by
  obtain ⟨F, hX, hbl, hbA, hL⟩ := X
  obtain ⟨r1, r2, h1, h2, he, hI2⟩ := hs (xs (i + 1)) (xs (i + 2)) (xs (i + 3)) σ hI
  refine l_aload_n F dL_law_648 rfl ?_
  refine l_arg (j := 1) F hX hbl hbA (by omega) hL rfl rfl rfl kc_1 nc_1.symm dL_law_649 dL_law_650 dL_law_652 dL_law_653 dL_law_654 ?_
  refine l_arg (j := 2) F hX hbl hbA (by omega) hL rfl rfl rfl kc_2 nc_2.symm dL_law_655 dL_law_656 dL_law_658 dL_law_659 dL_law_660 ?_
  refine l_arg (j := 3) F hX hbl hbA (by omega) hL rfl rfl rfl kc_3 nc_3.symm dL_law_661 dL_law_662 dL_law_664 dL_law_665 dL_law_666 ?_
  refine l_callI (As := [.int (xs (i + 1)), .int (xs (i + 2)), .int (xs (i + 3))]) F hEx mv_L_72 (f_X11_split_ok h1) rfl rfl ok_0 ⟨Nat.le_of_ble_eq_true rfl, Nat.le_of_ble_eq_true rfl⟩ (Nat.le_of_ble_eq_true rfl) hcs dL_law_667 ?_
  refine l_aload_n F dL_law_670 rfl ?_
  refine l_arg (j := 1) F hX hbl hbA (by omega) hL rfl rfl rfl kc_1 nc_1.symm dL_law_671 dL_law_672 dL_law_674 dL_law_675 dL_law_676 ?_
  refine l_arg (j := 2) F hX hbl hbA (by omega) hL rfl rfl rfl kc_2 nc_2.symm dL_law_677 dL_law_678 dL_law_680 dL_law_681 dL_law_682 ?_
  refine l_arg (j := 3) F hX hbl hbA (by omega) hL rfl rfl rfl kc_3 nc_3.symm dL_law_683 dL_law_684 dL_law_686 dL_law_687 dL_law_688 ?_
  refine l_callI (As := [.int (xs (i + 1)), .int (xs (i + 2)), .int (xs (i + 3))]) F hEx mv_L_75 (f_X12_split_ok h2) rfl rfl ok_28 ⟨Nat.le_of_ble_eq_true rfl, Nat.le_of_ble_eq_true rfl⟩ (Nat.le_of_ble_eq_true rfl) hcs dL_law_689 ?_
  refine l_icmp_eq F 1992 dL_law_692 rfl (fun _ => ?_) (fun q => absurd he q)
  exact kk _ hI2
theorem case_13 (X : LX p s m meth c w A b Ls xs) (hEx : gKeep w Ex) (hi : i + 6 ≤ Ls) (hcs : ce ≤ room_1.cells ∧ sl ≤ room_1.slots) (hs : SS3 Inv f_X11_leg f_X12_leg) (hI : Inv σ) (kk : ∀ σ', Inv σ' → GL p l e room_1 s m #[Value.ref b] below meth c 7 w A Q Ex 1992 [some (.ref b), some (.ref (w.2.1 0 0)), some (.ref (w.2.1 28 0)), some (.ref qo), some (.int (nI i)), x5, x6] [] σ' ce sl) : GL p l e room_1 s m #[Value.ref b] below meth c 7 w A Q Ex 697 [some (.ref b), some (.ref (w.2.1 0 0)), some (.ref (w.2.1 28 0)), some (.ref qo), some (.int (nI i)), x5, x6] [] σ ce sl := by
  obtain ⟨F, hX, hbl, hbA, hL⟩ := X
  obtain ⟨r1, r2, h1, h2, he, hI2⟩ := hs (xs (i + 1)) (xs (i + 2)) (xs (i + 3)) σ hI
  refine l_aload_n F dL_law_697 rfl ?_
  refine l_arg (j := 1) F hX hbl hbA (by omega) hL rfl rfl rfl kc_1 nc_1.symm dL_law_698 dL_law_699 dL_law_701 dL_law_702 dL_law_703 ?_
  refine l_arg (j := 2) F hX hbl hbA (by omega) hL rfl rfl rfl kc_2 nc_2.symm dL_law_704 dL_law_705 dL_law_707 dL_law_708 dL_law_709 ?_
  refine l_arg (j := 3) F hX hbl hbA (by omega) hL rfl rfl rfl kc_3 nc_3.symm dL_law_710 dL_law_711 dL_law_713 dL_law_714 dL_law_715 ?_
  refine l_callI (As := [.int (xs (i + 1)), .int (xs (i + 2)), .int (xs (i + 3))]) F hEx mv_L_76 (f_X11_leg_ok h1) rfl rfl ok_0 ⟨Nat.le_of_ble_eq_true rfl, Nat.le_of_ble_eq_true rfl⟩ (Nat.le_of_ble_eq_true rfl) hcs dL_law_716 ?_
  refine l_aload_n F dL_law_719 rfl ?_
  refine l_arg (j := 1) F hX hbl hbA (by omega) hL rfl rfl rfl kc_1 nc_1.symm dL_law_720 dL_law_721 dL_law_723 dL_law_724 dL_law_725 ?_
  refine l_arg (j := 2) F hX hbl hbA (by omega) hL rfl rfl rfl kc_2 nc_2.symm dL_law_726 dL_law_727 dL_law_729 dL_law_730 dL_law_731 ?_
  refine l_arg (j := 3) F hX hbl hbA (by omega) hL rfl rfl rfl kc_3 nc_3.symm dL_law_732 dL_law_733 dL_law_735 dL_law_736 dL_law_737 ?_
  refine l_callI (As := [.int (xs (i + 1)), .int (xs (i + 2)), .int (xs (i + 3))]) F hEx mv_L_79 (f_X12_leg_ok h2) rfl rfl ok_28 ⟨Nat.le_of_ble_eq_true rfl, Nat.le_of_ble_eq_true rfl⟩ (Nat.le_of_ble_eq_true rfl) hcs dL_law_738 ?_
  refine l_icmp_eq F 1992 dL_law_741 rfl (fun _ => ?_) (fun q => absurd he q)
  exact kk _ hI2
theorem case_14 (X : LX p s m meth c w A b Ls xs) (hEx : gKeep w Ex) (hi : i + 6 ≤ Ls) (hcs : ce ≤ room_1.cells ∧ sl ≤ room_1.slots) (hs : SS3 Inv f_X11_best f_X12_best) (hI : Inv σ) (kk : ∀ σ', Inv σ' → GL p l e room_1 s m #[Value.ref b] below meth c 7 w A Q Ex 1992 [some (.ref b), some (.ref (w.2.1 0 0)), some (.ref (w.2.1 28 0)), some (.ref qo), some (.int (nI i)), x5, x6] [] σ' ce sl) : GL p l e room_1 s m #[Value.ref b] below meth c 7 w A Q Ex 746 [some (.ref b), some (.ref (w.2.1 0 0)), some (.ref (w.2.1 28 0)), some (.ref qo), some (.int (nI i)), x5, x6] [] σ ce sl := by
  obtain ⟨F, hX, hbl, hbA, hL⟩ := X
  obtain ⟨r1, r2, h1, h2, he, hI2⟩ := hs (xs (i + 1)) (xs (i + 2)) (xs (i + 3)) σ hI
  refine l_aload_n F dL_law_746 rfl ?_
  refine l_arg (j := 1) F hX hbl hbA (by omega) hL rfl rfl rfl kc_1 nc_1.symm dL_law_747 dL_law_748 dL_law_750 dL_law_751 dL_law_752 ?_
  refine l_arg (j := 2) F hX hbl hbA (by omega) hL rfl rfl rfl kc_2 nc_2.symm dL_law_753 dL_law_754 dL_law_756 dL_law_757 dL_law_758 ?_
  refine l_arg (j := 3) F hX hbl hbA (by omega) hL rfl rfl rfl kc_3 nc_3.symm dL_law_759 dL_law_760 dL_law_762 dL_law_763 dL_law_764 ?_
  refine l_callI (As := [.int (xs (i + 1)), .int (xs (i + 2)), .int (xs (i + 3))]) F hEx mv_L_80 (f_X11_best_ok h1) rfl rfl ok_0 ⟨Nat.le_of_ble_eq_true rfl, Nat.le_of_ble_eq_true rfl⟩ (Nat.le_of_ble_eq_true rfl) hcs dL_law_765 ?_
  refine l_aload_n F dL_law_768 rfl ?_
  refine l_arg (j := 1) F hX hbl hbA (by omega) hL rfl rfl rfl kc_1 nc_1.symm dL_law_769 dL_law_770 dL_law_772 dL_law_773 dL_law_774 ?_
  refine l_arg (j := 2) F hX hbl hbA (by omega) hL rfl rfl rfl kc_2 nc_2.symm dL_law_775 dL_law_776 dL_law_778 dL_law_779 dL_law_780 ?_
  refine l_arg (j := 3) F hX hbl hbA (by omega) hL rfl rfl rfl kc_3 nc_3.symm dL_law_781 dL_law_782 dL_law_784 dL_law_785 dL_law_786 ?_
  refine l_callI (As := [.int (xs (i + 1)), .int (xs (i + 2)), .int (xs (i + 3))]) F hEx mv_L_83 (f_X12_best_ok h2) rfl rfl ok_28 ⟨Nat.le_of_ble_eq_true rfl, Nat.le_of_ble_eq_true rfl⟩ (Nat.le_of_ble_eq_true rfl) hcs dL_law_787 ?_
  refine l_icmp_eq F 1992 dL_law_790 rfl (fun _ => ?_) (fun q => absurd he q)
  exact kk _ hI2
theorem case_15 (X : LX p s m meth c w A b Ls xs) (hEx : gKeep w Ex) (hi : i + 6 ≤ Ls) (hcs : ce ≤ room_1.cells ∧ sl ≤ room_1.slots) (hs : SS2 Inv f_X11_leads f_X12_leads) (hI : Inv σ) (kk : ∀ σ', Inv σ' → GL p l e room_1 s m #[Value.ref b] below meth c 7 w A Q Ex 1992 [some (.ref b), some (.ref (w.2.1 0 0)), some (.ref (w.2.1 28 0)), some (.ref qo), some (.int (nI i)), x5, x6] [] σ' ce sl) : GL p l e room_1 s m #[Value.ref b] below meth c 7 w A Q Ex 795 [some (.ref b), some (.ref (w.2.1 0 0)), some (.ref (w.2.1 28 0)), some (.ref qo), some (.int (nI i)), x5, x6] [] σ ce sl := by
  obtain ⟨F, hX, hbl, hbA, hL⟩ := X
  obtain ⟨r1, r2, h1, h2, he, hI2⟩ := hs (xs (i + 1)) (xs (i + 2)) σ hI
  refine l_aload_n F dL_law_795 rfl ?_
  refine l_arg (j := 1) F hX hbl hbA (by omega) hL rfl rfl rfl kc_1 nc_1.symm dL_law_796 dL_law_797 dL_law_799 dL_law_800 dL_law_801 ?_
  refine l_arg (j := 2) F hX hbl hbA (by omega) hL rfl rfl rfl kc_2 nc_2.symm dL_law_802 dL_law_803 dL_law_805 dL_law_806 dL_law_807 ?_
  refine l_callI (As := [.int (xs (i + 1)), .int (xs (i + 2))]) F hEx mv_L_84 (f_X11_leads_ok h1) rfl rfl ok_0 ⟨Nat.le_of_ble_eq_true rfl, Nat.le_of_ble_eq_true rfl⟩ (Nat.le_of_ble_eq_true rfl) hcs dL_law_808 ?_
  refine l_aload_n F dL_law_811 rfl ?_
  refine l_arg (j := 1) F hX hbl hbA (by omega) hL rfl rfl rfl kc_1 nc_1.symm dL_law_812 dL_law_813 dL_law_815 dL_law_816 dL_law_817 ?_
  refine l_arg (j := 2) F hX hbl hbA (by omega) hL rfl rfl rfl kc_2 nc_2.symm dL_law_818 dL_law_819 dL_law_821 dL_law_822 dL_law_823 ?_
  refine l_callI (As := [.int (xs (i + 1)), .int (xs (i + 2))]) F hEx mv_L_87 (f_X12_leads_ok h2) rfl rfl ok_28 ⟨Nat.le_of_ble_eq_true rfl, Nat.le_of_ble_eq_true rfl⟩ (Nat.le_of_ble_eq_true rfl) hcs dL_law_824 ?_
  refine l_icmp_eq F 1992 dL_law_827 rfl (fun _ => ?_) (fun q => absurd he q)
  exact kk _ hI2
theorem case_16 (X : LX p s m meth c w A b Ls xs) (hEx : gKeep w Ex) (hi : i + 6 ≤ Ls) (hcs : ce ≤ room_1.cells ∧ sl ≤ room_1.slots) (hs : SS1 Inv f_X11_changes f_X12_changes) (hI : Inv σ) (kk : ∀ σ', Inv σ' → GL p l e room_1 s m #[Value.ref b] below meth c 7 w A Q Ex 1992 [some (.ref b), some (.ref (w.2.1 0 0)), some (.ref (w.2.1 28 0)), some (.ref qo), some (.int (nI i)), x5, x6] [] σ' ce sl) : GL p l e room_1 s m #[Value.ref b] below meth c 7 w A Q Ex 832 [some (.ref b), some (.ref (w.2.1 0 0)), some (.ref (w.2.1 28 0)), some (.ref qo), some (.int (nI i)), x5, x6] [] σ ce sl := by
  obtain ⟨F, hX, hbl, hbA, hL⟩ := X
  obtain ⟨r1, r2, h1, h2, he, hI2⟩ := hs (xs (i + 1)) σ hI
  refine l_aload_n F dL_law_832 rfl ?_
  refine l_arg (j := 1) F hX hbl hbA (by omega) hL rfl rfl rfl kc_1 nc_1.symm dL_law_833 dL_law_834 dL_law_836 dL_law_837 dL_law_838 ?_
  refine l_callI (As := [.int (xs (i + 1))]) F hEx mv_L_88 (f_X11_changes_ok h1) rfl rfl ok_0 ⟨Nat.le_of_ble_eq_true rfl, Nat.le_of_ble_eq_true rfl⟩ (Nat.le_of_ble_eq_true rfl) hcs dL_law_839 ?_
  refine l_aload_n F dL_law_842 rfl ?_
  refine l_arg (j := 1) F hX hbl hbA (by omega) hL rfl rfl rfl kc_1 nc_1.symm dL_law_843 dL_law_844 dL_law_846 dL_law_847 dL_law_848 ?_
  refine l_callI (As := [.int (xs (i + 1))]) F hEx mv_L_91 (f_X12_changes_ok h2) rfl rfl ok_28 ⟨Nat.le_of_ble_eq_true rfl, Nat.le_of_ble_eq_true rfl⟩ (Nat.le_of_ble_eq_true rfl) hcs dL_law_849 ?_
  refine l_icmp_eq F 1992 dL_law_852 rfl (fun _ => ?_) (fun q => absurd he q)
  exact kk _ hI2
theorem case_17 (X : LX p s m meth c w A b Ls xs) (hEx : gKeep w Ex) (hi : i + 6 ≤ Ls) (hcs : ce ≤ room_1.cells ∧ sl ≤ room_1.slots) (hs : SS2 Inv f_X11_ranked f_X12_ranked) (hI : Inv σ) (kk : ∀ σ', Inv σ' → GL p l e room_1 s m #[Value.ref b] below meth c 7 w A Q Ex 1992 [some (.ref b), some (.ref (w.2.1 0 0)), some (.ref (w.2.1 28 0)), some (.ref qo), some (.int (nI i)), x5, x6] [] σ' ce sl) : GL p l e room_1 s m #[Value.ref b] below meth c 7 w A Q Ex 857 [some (.ref b), some (.ref (w.2.1 0 0)), some (.ref (w.2.1 28 0)), some (.ref qo), some (.int (nI i)), x5, x6] [] σ ce sl := by
  obtain ⟨F, hX, hbl, hbA, hL⟩ := X
  obtain ⟨r1, r2, h1, h2, he, hI2⟩ := hs (xs (i + 1)) (xs (i + 2)) σ hI
  refine l_aload_n F dL_law_857 rfl ?_
  refine l_arg (j := 1) F hX hbl hbA (by omega) hL rfl rfl rfl kc_1 nc_1.symm dL_law_858 dL_law_859 dL_law_861 dL_law_862 dL_law_863 ?_
  refine l_arg (j := 2) F hX hbl hbA (by omega) hL rfl rfl rfl kc_2 nc_2.symm dL_law_864 dL_law_865 dL_law_867 dL_law_868 dL_law_869 ?_
  refine l_callI (As := [.int (xs (i + 1)), .int (xs (i + 2))]) F hEx mv_L_92 (f_X11_ranked_ok h1) rfl rfl ok_0 ⟨Nat.le_of_ble_eq_true rfl, Nat.le_of_ble_eq_true rfl⟩ (Nat.le_of_ble_eq_true rfl) hcs dL_law_870 ?_
  refine l_aload_n F dL_law_873 rfl ?_
  refine l_arg (j := 1) F hX hbl hbA (by omega) hL rfl rfl rfl kc_1 nc_1.symm dL_law_874 dL_law_875 dL_law_877 dL_law_878 dL_law_879 ?_
  refine l_arg (j := 2) F hX hbl hbA (by omega) hL rfl rfl rfl kc_2 nc_2.symm dL_law_880 dL_law_881 dL_law_883 dL_law_884 dL_law_885 ?_
  refine l_callI (As := [.int (xs (i + 1)), .int (xs (i + 2))]) F hEx mv_L_95 (f_X12_ranked_ok h2) rfl rfl ok_28 ⟨Nat.le_of_ble_eq_true rfl, Nat.le_of_ble_eq_true rfl⟩ (Nat.le_of_ble_eq_true rfl) hcs dL_law_886 ?_
  refine l_icmp_eq F 1992 dL_law_889 rfl (fun _ => ?_) (fun q => absurd he q)
  exact kk _ hI2
theorem case_18 (X : LX p s m meth c w A b Ls xs) (hEx : gKeep w Ex) (hi : i + 6 ≤ Ls) (hcs : ce ≤ room_1.cells ∧ sl ≤ room_1.slots) (hs : SS1 Inv f_X11_lost f_X12_lost) (hI : Inv σ) (kk : ∀ σ', Inv σ' → GL p l e room_1 s m #[Value.ref b] below meth c 7 w A Q Ex 1992 [some (.ref b), some (.ref (w.2.1 0 0)), some (.ref (w.2.1 28 0)), some (.ref qo), some (.int (nI i)), x5, x6] [] σ' ce sl) : GL p l e room_1 s m #[Value.ref b] below meth c 7 w A Q Ex 894 [some (.ref b), some (.ref (w.2.1 0 0)), some (.ref (w.2.1 28 0)), some (.ref qo), some (.int (nI i)), x5, x6] [] σ ce sl := by
  obtain ⟨F, hX, hbl, hbA, hL⟩ := X
  obtain ⟨r1, r2, h1, h2, he, hI2⟩ := hs (xs (i + 1)) σ hI
  refine l_aload_n F dL_law_894 rfl ?_
  refine l_arg (j := 1) F hX hbl hbA (by omega) hL rfl rfl rfl kc_1 nc_1.symm dL_law_895 dL_law_896 dL_law_898 dL_law_899 dL_law_900 ?_
  refine l_callI (As := [.int (xs (i + 1))]) F hEx mv_L_96 (f_X11_lost_ok h1) rfl rfl ok_0 ⟨Nat.le_of_ble_eq_true rfl, Nat.le_of_ble_eq_true rfl⟩ (Nat.le_of_ble_eq_true rfl) hcs dL_law_901 ?_
  refine l_aload_n F dL_law_904 rfl ?_
  refine l_arg (j := 1) F hX hbl hbA (by omega) hL rfl rfl rfl kc_1 nc_1.symm dL_law_905 dL_law_906 dL_law_908 dL_law_909 dL_law_910 ?_
  refine l_callI (As := [.int (xs (i + 1))]) F hEx mv_L_99 (f_X12_lost_ok h2) rfl rfl ok_28 ⟨Nat.le_of_ble_eq_true rfl, Nat.le_of_ble_eq_true rfl⟩ (Nat.le_of_ble_eq_true rfl) hcs dL_law_911 ?_
  refine l_icmp_eq F 1992 dL_law_914 rfl (fun _ => ?_) (fun q => absurd he q)
  exact kk _ hI2
theorem case_19 (X : LX p s m meth c w A b Ls xs) (hEx : gKeep w Ex) (hi : i + 6 ≤ Ls) (hcs : ce ≤ room_1.cells ∧ sl ≤ room_1.slots) (hs : SS1 Inv f_X11_worst f_X12_worst) (hI : Inv σ) (kk : ∀ σ', Inv σ' → GL p l e room_1 s m #[Value.ref b] below meth c 7 w A Q Ex 1992 [some (.ref b), some (.ref (w.2.1 0 0)), some (.ref (w.2.1 28 0)), some (.ref qo), some (.int (nI i)), x5, x6] [] σ' ce sl) : GL p l e room_1 s m #[Value.ref b] below meth c 7 w A Q Ex 919 [some (.ref b), some (.ref (w.2.1 0 0)), some (.ref (w.2.1 28 0)), some (.ref qo), some (.int (nI i)), x5, x6] [] σ ce sl := by
  obtain ⟨F, hX, hbl, hbA, hL⟩ := X
  obtain ⟨r1, r2, h1, h2, he, hI2⟩ := hs (xs (i + 1)) σ hI
  refine l_aload_n F dL_law_919 rfl ?_
  refine l_arg (j := 1) F hX hbl hbA (by omega) hL rfl rfl rfl kc_1 nc_1.symm dL_law_920 dL_law_921 dL_law_923 dL_law_924 dL_law_925 ?_
  refine l_callI (As := [.int (xs (i + 1))]) F hEx mv_L_100 (f_X11_worst_ok h1) rfl rfl ok_0 ⟨Nat.le_of_ble_eq_true rfl, Nat.le_of_ble_eq_true rfl⟩ (Nat.le_of_ble_eq_true rfl) hcs dL_law_926 ?_
  refine l_aload_n F dL_law_929 rfl ?_
  refine l_arg (j := 1) F hX hbl hbA (by omega) hL rfl rfl rfl kc_1 nc_1.symm dL_law_930 dL_law_931 dL_law_933 dL_law_934 dL_law_935 ?_
  refine l_callI (As := [.int (xs (i + 1))]) F hEx mv_L_103 (f_X12_worst_ok h2) rfl rfl ok_28 ⟨Nat.le_of_ble_eq_true rfl, Nat.le_of_ble_eq_true rfl⟩ (Nat.le_of_ble_eq_true rfl) hcs dL_law_936 ?_
  refine l_icmp_eq F 1992 dL_law_939 rfl (fun _ => ?_) (fun q => absurd he q)
  exact kk _ hI2
theorem case_20 (X : LX p s m meth c w A b Ls xs) (hEx : gKeep w Ex) (hi : i + 6 ≤ Ls) (hcs : ce ≤ room_1.cells ∧ sl ≤ room_1.slots) (hs : SS2 Inv f_X11_pace f_X12_pace) (hI : Inv σ) (kk : ∀ σ', Inv σ' → GL p l e room_1 s m #[Value.ref b] below meth c 7 w A Q Ex 1992 [some (.ref b), some (.ref (w.2.1 0 0)), some (.ref (w.2.1 28 0)), some (.ref qo), some (.int (nI i)), x5, x6] [] σ' ce sl) : GL p l e room_1 s m #[Value.ref b] below meth c 7 w A Q Ex 944 [some (.ref b), some (.ref (w.2.1 0 0)), some (.ref (w.2.1 28 0)), some (.ref qo), some (.int (nI i)), x5, x6] [] σ ce sl := by
  obtain ⟨F, hX, hbl, hbA, hL⟩ := X
  obtain ⟨r1, r2, h1, h2, he, hI2⟩ := hs (xs (i + 1)) (xs (i + 2)) σ hI
  refine l_aload_n F dL_law_944 rfl ?_
  refine l_arg (j := 1) F hX hbl hbA (by omega) hL rfl rfl rfl kc_1 nc_1.symm dL_law_945 dL_law_946 dL_law_948 dL_law_949 dL_law_950 ?_
  refine l_arg (j := 2) F hX hbl hbA (by omega) hL rfl rfl rfl kc_2 nc_2.symm dL_law_951 dL_law_952 dL_law_954 dL_law_955 dL_law_956 ?_
  refine l_callI (As := [.int (xs (i + 1)), .int (xs (i + 2))]) F hEx mv_L_104 (f_X11_pace_ok h1) rfl rfl ok_0 ⟨Nat.le_of_ble_eq_true rfl, Nat.le_of_ble_eq_true rfl⟩ (Nat.le_of_ble_eq_true rfl) hcs dL_law_957 ?_
  refine l_aload_n F dL_law_960 rfl ?_
  refine l_arg (j := 1) F hX hbl hbA (by omega) hL rfl rfl rfl kc_1 nc_1.symm dL_law_961 dL_law_962 dL_law_964 dL_law_965 dL_law_966 ?_
  refine l_arg (j := 2) F hX hbl hbA (by omega) hL rfl rfl rfl kc_2 nc_2.symm dL_law_967 dL_law_968 dL_law_970 dL_law_971 dL_law_972 ?_
  refine l_callI (As := [.int (xs (i + 1)), .int (xs (i + 2))]) F hEx mv_L_107 (f_X12_pace_ok h2) rfl rfl ok_28 ⟨Nat.le_of_ble_eq_true rfl, Nat.le_of_ble_eq_true rfl⟩ (Nat.le_of_ble_eq_true rfl) hcs dL_law_973 ?_
  refine l_icmp_eq F 1992 dL_law_976 rfl (fun _ => ?_) (fun q => absurd he q)
  exact kk _ hI2
theorem case_21 (X : LX p s m meth c w A b Ls xs) (hEx : gKeep w Ex) (hi : i + 6 ≤ Ls) (hcs : ce ≤ room_1.cells ∧ sl ≤ room_1.slots) (hs : SS1 Inv f_X11_mistakes f_X12_mistakes) (hI : Inv σ) (kk : ∀ σ', Inv σ' → GL p l e room_1 s m #[Value.ref b] below meth c 7 w A Q Ex 1992 [some (.ref b), some (.ref (w.2.1 0 0)), some (.ref (w.2.1 28 0)), some (.ref qo), some (.int (nI i)), x5, x6] [] σ' ce sl) : GL p l e room_1 s m #[Value.ref b] below meth c 7 w A Q Ex 981 [some (.ref b), some (.ref (w.2.1 0 0)), some (.ref (w.2.1 28 0)), some (.ref qo), some (.int (nI i)), x5, x6] [] σ ce sl := by
  obtain ⟨F, hX, hbl, hbA, hL⟩ := X
  obtain ⟨r1, r2, h1, h2, he, hI2⟩ := hs (xs (i + 1)) σ hI
  refine l_aload_n F dL_law_981 rfl ?_
  refine l_arg (j := 1) F hX hbl hbA (by omega) hL rfl rfl rfl kc_1 nc_1.symm dL_law_982 dL_law_983 dL_law_985 dL_law_986 dL_law_987 ?_
  refine l_callI (As := [.int (xs (i + 1))]) F hEx mv_L_108 (f_X11_mistakes_ok h1) rfl rfl ok_0 ⟨Nat.le_of_ble_eq_true rfl, Nat.le_of_ble_eq_true rfl⟩ (Nat.le_of_ble_eq_true rfl) hcs dL_law_988 ?_
  refine l_aload_n F dL_law_991 rfl ?_
  refine l_arg (j := 1) F hX hbl hbA (by omega) hL rfl rfl rfl kc_1 nc_1.symm dL_law_992 dL_law_993 dL_law_995 dL_law_996 dL_law_997 ?_
  refine l_callI (As := [.int (xs (i + 1))]) F hEx mv_L_111 (f_X12_mistakes_ok h2) rfl rfl ok_28 ⟨Nat.le_of_ble_eq_true rfl, Nat.le_of_ble_eq_true rfl⟩ (Nat.le_of_ble_eq_true rfl) hcs dL_law_998 ?_
  refine l_icmp_eq F 1992 dL_law_1001 rfl (fun _ => ?_) (fun q => absurd he q)
  exact kk _ hI2
theorem case_22 (X : LX p s m meth c w A b Ls xs) (hEx : gKeep w Ex) (hi : i + 6 ≤ Ls) (hcs : ce ≤ room_1.cells ∧ sl ≤ room_1.slots) (hs : SS1 Inv f_X11_clean f_X12_clean) (hI : Inv σ) (kk : ∀ σ', Inv σ' → GL p l e room_1 s m #[Value.ref b] below meth c 7 w A Q Ex 1992 [some (.ref b), some (.ref (w.2.1 0 0)), some (.ref (w.2.1 28 0)), some (.ref qo), some (.int (nI i)), x5, x6] [] σ' ce sl) : GL p l e room_1 s m #[Value.ref b] below meth c 7 w A Q Ex 1006 [some (.ref b), some (.ref (w.2.1 0 0)), some (.ref (w.2.1 28 0)), some (.ref qo), some (.int (nI i)), x5, x6] [] σ ce sl := by
  obtain ⟨F, hX, hbl, hbA, hL⟩ := X
  obtain ⟨r1, r2, h1, h2, he, hI2⟩ := hs (xs (i + 1)) σ hI
  refine l_aload_n F dL_law_1006 rfl ?_
  refine l_arg (j := 1) F hX hbl hbA (by omega) hL rfl rfl rfl kc_1 nc_1.symm dL_law_1007 dL_law_1008 dL_law_1010 dL_law_1011 dL_law_1012 ?_
  refine l_callI (As := [.int (xs (i + 1))]) F hEx mv_L_112 (f_X11_clean_ok h1) rfl rfl ok_0 ⟨Nat.le_of_ble_eq_true rfl, Nat.le_of_ble_eq_true rfl⟩ (Nat.le_of_ble_eq_true rfl) hcs dL_law_1013 ?_
  refine l_aload_n F dL_law_1016 rfl ?_
  refine l_arg (j := 1) F hX hbl hbA (by omega) hL rfl rfl rfl kc_1 nc_1.symm dL_law_1017 dL_law_1018 dL_law_1020 dL_law_1021 dL_law_1022 ?_
  refine l_callI (As := [.int (xs (i + 1))]) F hEx mv_L_115 (f_X12_clean_ok h2) rfl rfl ok_28 ⟨Nat.le_of_ble_eq_true rfl, Nat.le_of_ble_eq_true rfl⟩ (Nat.le_of_ble_eq_true rfl) hcs dL_law_1023 ?_
  refine l_icmp_eq F 1992 dL_law_1026 rfl (fun _ => ?_) (fun q => absurd he q)
  exact kk _ hI2
theorem case_23 (X : LX p s m meth c w A b Ls xs) (hEx : gKeep w Ex) (hi : i + 6 ≤ Ls) (hcs : ce ≤ room_1.cells ∧ sl ≤ room_1.slots) (hs : SS2 Inv f_X11_cleanPlace f_X12_cleanPlace) (hI : Inv σ) (kk : ∀ σ', Inv σ' → GL p l e room_1 s m #[Value.ref b] below meth c 7 w A Q Ex 1992 [some (.ref b), some (.ref (w.2.1 0 0)), some (.ref (w.2.1 28 0)), some (.ref qo), some (.int (nI i)), x5, x6] [] σ' ce sl) : GL p l e room_1 s m #[Value.ref b] below meth c 7 w A Q Ex 1031 [some (.ref b), some (.ref (w.2.1 0 0)), some (.ref (w.2.1 28 0)), some (.ref qo), some (.int (nI i)), x5, x6] [] σ ce sl := by
  obtain ⟨F, hX, hbl, hbA, hL⟩ := X
  obtain ⟨r1, r2, h1, h2, he, hI2⟩ := hs (xs (i + 1)) (xs (i + 2)) σ hI
  refine l_aload_n F dL_law_1031 rfl ?_
  refine l_arg (j := 1) F hX hbl hbA (by omega) hL rfl rfl rfl kc_1 nc_1.symm dL_law_1032 dL_law_1033 dL_law_1035 dL_law_1036 dL_law_1037 ?_
  refine l_arg (j := 2) F hX hbl hbA (by omega) hL rfl rfl rfl kc_2 nc_2.symm dL_law_1038 dL_law_1039 dL_law_1041 dL_law_1042 dL_law_1043 ?_
  refine l_callI (As := [.int (xs (i + 1)), .int (xs (i + 2))]) F hEx mv_L_116 (f_X11_cleanPlace_ok h1) rfl rfl ok_0 ⟨Nat.le_of_ble_eq_true rfl, Nat.le_of_ble_eq_true rfl⟩ (Nat.le_of_ble_eq_true rfl) hcs dL_law_1044 ?_
  refine l_aload_n F dL_law_1047 rfl ?_
  refine l_arg (j := 1) F hX hbl hbA (by omega) hL rfl rfl rfl kc_1 nc_1.symm dL_law_1048 dL_law_1049 dL_law_1051 dL_law_1052 dL_law_1053 ?_
  refine l_arg (j := 2) F hX hbl hbA (by omega) hL rfl rfl rfl kc_2 nc_2.symm dL_law_1054 dL_law_1055 dL_law_1057 dL_law_1058 dL_law_1059 ?_
  refine l_callI (As := [.int (xs (i + 1)), .int (xs (i + 2))]) F hEx mv_L_119 (f_X12_cleanPlace_ok h2) rfl rfl ok_28 ⟨Nat.le_of_ble_eq_true rfl, Nat.le_of_ble_eq_true rfl⟩ (Nat.le_of_ble_eq_true rfl) hcs dL_law_1060 ?_
  refine l_icmp_eq F 1992 dL_law_1063 rfl (fun _ => ?_) (fun q => absurd he q)
  exact kk _ hI2
theorem case_24 (X : LX p s m meth c w A b Ls xs) (hEx : gKeep w Ex) (hi : i + 6 ≤ Ls) (hcs : ce ≤ room_1.cells ∧ sl ≤ room_1.slots) (hs : SS3 Inv f_X11_without f_X12_without) (hI : Inv σ) (kk : ∀ σ', Inv σ' → GL p l e room_1 s m #[Value.ref b] below meth c 7 w A Q Ex 1992 [some (.ref b), some (.ref (w.2.1 0 0)), some (.ref (w.2.1 28 0)), some (.ref qo), some (.int (nI i)), x5, x6] [] σ' ce sl) : GL p l e room_1 s m #[Value.ref b] below meth c 7 w A Q Ex 1068 [some (.ref b), some (.ref (w.2.1 0 0)), some (.ref (w.2.1 28 0)), some (.ref qo), some (.int (nI i)), x5, x6] [] σ ce sl := by
  obtain ⟨F, hX, hbl, hbA, hL⟩ := X
  obtain ⟨r1, r2, h1, h2, he, hI2⟩ := hs (xs (i + 1)) (xs (i + 2)) (xs (i + 3)) σ hI
  refine l_aload_n F dL_law_1068 rfl ?_
  refine l_arg (j := 1) F hX hbl hbA (by omega) hL rfl rfl rfl kc_1 nc_1.symm dL_law_1069 dL_law_1070 dL_law_1072 dL_law_1073 dL_law_1074 ?_
  refine l_arg (j := 2) F hX hbl hbA (by omega) hL rfl rfl rfl kc_2 nc_2.symm dL_law_1075 dL_law_1076 dL_law_1078 dL_law_1079 dL_law_1080 ?_
  refine l_arg (j := 3) F hX hbl hbA (by omega) hL rfl rfl rfl kc_3 nc_3.symm dL_law_1081 dL_law_1082 dL_law_1084 dL_law_1085 dL_law_1086 ?_
  refine l_callI (As := [.int (xs (i + 1)), .int (xs (i + 2)), .int (xs (i + 3))]) F hEx mv_L_120 (f_X11_without_ok h1) rfl rfl ok_0 ⟨Nat.le_of_ble_eq_true rfl, Nat.le_of_ble_eq_true rfl⟩ (Nat.le_of_ble_eq_true rfl) hcs dL_law_1087 ?_
  refine l_aload_n F dL_law_1090 rfl ?_
  refine l_arg (j := 1) F hX hbl hbA (by omega) hL rfl rfl rfl kc_1 nc_1.symm dL_law_1091 dL_law_1092 dL_law_1094 dL_law_1095 dL_law_1096 ?_
  refine l_arg (j := 2) F hX hbl hbA (by omega) hL rfl rfl rfl kc_2 nc_2.symm dL_law_1097 dL_law_1098 dL_law_1100 dL_law_1101 dL_law_1102 ?_
  refine l_arg (j := 3) F hX hbl hbA (by omega) hL rfl rfl rfl kc_3 nc_3.symm dL_law_1103 dL_law_1104 dL_law_1106 dL_law_1107 dL_law_1108 ?_
  refine l_callI (As := [.int (xs (i + 1)), .int (xs (i + 2)), .int (xs (i + 3))]) F hEx mv_L_123 (f_X12_without_ok h2) rfl rfl ok_28 ⟨Nat.le_of_ble_eq_true rfl, Nat.le_of_ble_eq_true rfl⟩ (Nat.le_of_ble_eq_true rfl) hcs dL_law_1109 ?_
  refine l_icmp_eq F 1992 dL_law_1112 rfl (fun _ => ?_) (fun q => absurd he q)
  exact kk _ hI2
theorem case_25 (X : LX p s m meth c w A b Ls xs) (hEx : gKeep w Ex) (hi : i + 6 ≤ Ls) (hcs : ce ≤ room_1.cells ∧ sl ≤ room_1.slots) (hs : SS2 Inv f_X11_hardest f_X12_hardest) (hI : Inv σ) (kk : ∀ σ', Inv σ' → GL p l e room_1 s m #[Value.ref b] below meth c 7 w A Q Ex 1992 [some (.ref b), some (.ref (w.2.1 0 0)), some (.ref (w.2.1 28 0)), some (.ref qo), some (.int (nI i)), x5, x6] [] σ' ce sl) : GL p l e room_1 s m #[Value.ref b] below meth c 7 w A Q Ex 1117 [some (.ref b), some (.ref (w.2.1 0 0)), some (.ref (w.2.1 28 0)), some (.ref qo), some (.int (nI i)), x5, x6] [] σ ce sl := by
  obtain ⟨F, hX, hbl, hbA, hL⟩ := X
  obtain ⟨r1, r2, h1, h2, he, hI2⟩ := hs (xs (i + 1)) (xs (i + 2)) σ hI
  refine l_aload_n F dL_law_1117 rfl ?_
  refine l_arg (j := 1) F hX hbl hbA (by omega) hL rfl rfl rfl kc_1 nc_1.symm dL_law_1118 dL_law_1119 dL_law_1121 dL_law_1122 dL_law_1123 ?_
  refine l_arg (j := 2) F hX hbl hbA (by omega) hL rfl rfl rfl kc_2 nc_2.symm dL_law_1124 dL_law_1125 dL_law_1127 dL_law_1128 dL_law_1129 ?_
  refine l_callI (As := [.int (xs (i + 1)), .int (xs (i + 2))]) F hEx mv_L_124 (f_X11_hardest_ok h1) rfl rfl ok_0 ⟨Nat.le_of_ble_eq_true rfl, Nat.le_of_ble_eq_true rfl⟩ (Nat.le_of_ble_eq_true rfl) hcs dL_law_1130 ?_
  refine l_aload_n F dL_law_1133 rfl ?_
  refine l_arg (j := 1) F hX hbl hbA (by omega) hL rfl rfl rfl kc_1 nc_1.symm dL_law_1134 dL_law_1135 dL_law_1137 dL_law_1138 dL_law_1139 ?_
  refine l_arg (j := 2) F hX hbl hbA (by omega) hL rfl rfl rfl kc_2 nc_2.symm dL_law_1140 dL_law_1141 dL_law_1143 dL_law_1144 dL_law_1145 ?_
  refine l_callI (As := [.int (xs (i + 1)), .int (xs (i + 2))]) F hEx mv_L_127 (f_X12_hardest_ok h2) rfl rfl ok_28 ⟨Nat.le_of_ble_eq_true rfl, Nat.le_of_ble_eq_true rfl⟩ (Nat.le_of_ble_eq_true rfl) hcs dL_law_1146 ?_
  refine l_icmp_eq F 1992 dL_law_1149 rfl (fun _ => ?_) (fun q => absurd he q)
  exact kk _ hI2
theorem case_26 (X : LX p s m meth c w A b Ls xs) (hEx : gKeep w Ex) (hi : i + 6 ≤ Ls) (hcs : ce ≤ room_1.cells ∧ sl ≤ room_1.slots) (hs : SS1 Inv f_X11_packs f_X12_packs) (hI : Inv σ) (kk : ∀ σ', Inv σ' → GL p l e room_1 s m #[Value.ref b] below meth c 7 w A Q Ex 1992 [some (.ref b), some (.ref (w.2.1 0 0)), some (.ref (w.2.1 28 0)), some (.ref qo), some (.int (nI i)), x5, x6] [] σ' ce sl) : GL p l e room_1 s m #[Value.ref b] below meth c 7 w A Q Ex 1154 [some (.ref b), some (.ref (w.2.1 0 0)), some (.ref (w.2.1 28 0)), some (.ref qo), some (.int (nI i)), x5, x6] [] σ ce sl := by
  obtain ⟨F, hX, hbl, hbA, hL⟩ := X
  obtain ⟨r1, r2, h1, h2, he, hI2⟩ := hs (xs (i + 1)) σ hI
  refine l_aload_n F dL_law_1154 rfl ?_
  refine l_arg (j := 1) F hX hbl hbA (by omega) hL rfl rfl rfl kc_1 nc_1.symm dL_law_1155 dL_law_1156 dL_law_1158 dL_law_1159 dL_law_1160 ?_
  refine l_callI (As := [.int (xs (i + 1))]) F hEx mv_L_128 (f_X11_packs_ok h1) rfl rfl ok_0 ⟨Nat.le_of_ble_eq_true rfl, Nat.le_of_ble_eq_true rfl⟩ (Nat.le_of_ble_eq_true rfl) hcs dL_law_1161 ?_
  refine l_aload_n F dL_law_1164 rfl ?_
  refine l_arg (j := 1) F hX hbl hbA (by omega) hL rfl rfl rfl kc_1 nc_1.symm dL_law_1165 dL_law_1166 dL_law_1168 dL_law_1169 dL_law_1170 ?_
  refine l_callI (As := [.int (xs (i + 1))]) F hEx mv_L_131 (f_X12_packs_ok h2) rfl rfl ok_28 ⟨Nat.le_of_ble_eq_true rfl, Nat.le_of_ble_eq_true rfl⟩ (Nat.le_of_ble_eq_true rfl) hcs dL_law_1171 ?_
  refine l_icmp_eq F 1992 dL_law_1174 rfl (fun _ => ?_) (fun q => absurd he q)
  exact kk _ hI2
theorem case_27 (X : LX p s m meth c w A b Ls xs) (hEx : gKeep w Ex) (hi : i + 6 ≤ Ls) (hcs : ce ≤ room_1.cells ∧ sl ≤ room_1.slots) (hs : SS3 Inv f_X11_pack f_X12_pack) (hI : Inv σ) (kk : ∀ σ', Inv σ' → GL p l e room_1 s m #[Value.ref b] below meth c 7 w A Q Ex 1992 [some (.ref b), some (.ref (w.2.1 0 0)), some (.ref (w.2.1 28 0)), some (.ref qo), some (.int (nI i)), x5, x6] [] σ' ce sl) : GL p l e room_1 s m #[Value.ref b] below meth c 7 w A Q Ex 1179 [some (.ref b), some (.ref (w.2.1 0 0)), some (.ref (w.2.1 28 0)), some (.ref qo), some (.int (nI i)), x5, x6] [] σ ce sl := by
  obtain ⟨F, hX, hbl, hbA, hL⟩ := X
  obtain ⟨r1, r2, h1, h2, he, hI2⟩ := hs (xs (i + 1)) (xs (i + 2)) (xs (i + 3)) σ hI
  refine l_aload_n F dL_law_1179 rfl ?_
  refine l_arg (j := 1) F hX hbl hbA (by omega) hL rfl rfl rfl kc_1 nc_1.symm dL_law_1180 dL_law_1181 dL_law_1183 dL_law_1184 dL_law_1185 ?_
  refine l_arg (j := 2) F hX hbl hbA (by omega) hL rfl rfl rfl kc_2 nc_2.symm dL_law_1186 dL_law_1187 dL_law_1189 dL_law_1190 dL_law_1191 ?_
  refine l_arg (j := 3) F hX hbl hbA (by omega) hL rfl rfl rfl kc_3 nc_3.symm dL_law_1192 dL_law_1193 dL_law_1195 dL_law_1196 dL_law_1197 ?_
  refine l_callI (As := [.int (xs (i + 1)), .int (xs (i + 2)), .int (xs (i + 3))]) F hEx mv_L_132 (f_X11_pack_ok h1) rfl rfl ok_0 ⟨Nat.le_of_ble_eq_true rfl, Nat.le_of_ble_eq_true rfl⟩ (Nat.le_of_ble_eq_true rfl) hcs dL_law_1198 ?_
  refine l_aload_n F dL_law_1201 rfl ?_
  refine l_arg (j := 1) F hX hbl hbA (by omega) hL rfl rfl rfl kc_1 nc_1.symm dL_law_1202 dL_law_1203 dL_law_1205 dL_law_1206 dL_law_1207 ?_
  refine l_arg (j := 2) F hX hbl hbA (by omega) hL rfl rfl rfl kc_2 nc_2.symm dL_law_1208 dL_law_1209 dL_law_1211 dL_law_1212 dL_law_1213 ?_
  refine l_arg (j := 3) F hX hbl hbA (by omega) hL rfl rfl rfl kc_3 nc_3.symm dL_law_1214 dL_law_1215 dL_law_1217 dL_law_1218 dL_law_1219 ?_
  refine l_callI (As := [.int (xs (i + 1)), .int (xs (i + 2)), .int (xs (i + 3))]) F hEx mv_L_135 (f_X12_pack_ok h2) rfl rfl ok_28 ⟨Nat.le_of_ble_eq_true rfl, Nat.le_of_ble_eq_true rfl⟩ (Nat.le_of_ble_eq_true rfl) hcs dL_law_1220 ?_
  refine l_icmp_eq F 1992 dL_law_1223 rfl (fun _ => ?_) (fun q => absurd he q)
  exact kk _ hI2
theorem case_28 (X : LX p s m meth c w A b Ls xs) (hEx : gKeep w Ex) (hi : i + 6 ≤ Ls) (hcs : ce ≤ room_1.cells ∧ sl ≤ room_1.slots) (hs : SS2 Inv f_X11_together f_X12_together) (hI : Inv σ) (kk : ∀ σ', Inv σ' → GL p l e room_1 s m #[Value.ref b] below meth c 7 w A Q Ex 1992 [some (.ref b), some (.ref (w.2.1 0 0)), some (.ref (w.2.1 28 0)), some (.ref qo), some (.int (nI i)), x5, x6] [] σ' ce sl) : GL p l e room_1 s m #[Value.ref b] below meth c 7 w A Q Ex 1228 [some (.ref b), some (.ref (w.2.1 0 0)), some (.ref (w.2.1 28 0)), some (.ref qo), some (.int (nI i)), x5, x6] [] σ ce sl := by
  obtain ⟨F, hX, hbl, hbA, hL⟩ := X
  obtain ⟨r1, r2, h1, h2, he, hI2⟩ := hs (xs (i + 1)) (xs (i + 2)) σ hI
  refine l_aload_n F dL_law_1228 rfl ?_
  refine l_arg (j := 1) F hX hbl hbA (by omega) hL rfl rfl rfl kc_1 nc_1.symm dL_law_1229 dL_law_1230 dL_law_1232 dL_law_1233 dL_law_1234 ?_
  refine l_arg (j := 2) F hX hbl hbA (by omega) hL rfl rfl rfl kc_2 nc_2.symm dL_law_1235 dL_law_1236 dL_law_1238 dL_law_1239 dL_law_1240 ?_
  refine l_callI (As := [.int (xs (i + 1)), .int (xs (i + 2))]) F hEx mv_L_136 (f_X11_together_ok h1) rfl rfl ok_0 ⟨Nat.le_of_ble_eq_true rfl, Nat.le_of_ble_eq_true rfl⟩ (Nat.le_of_ble_eq_true rfl) hcs dL_law_1241 ?_
  refine l_aload_n F dL_law_1244 rfl ?_
  refine l_arg (j := 1) F hX hbl hbA (by omega) hL rfl rfl rfl kc_1 nc_1.symm dL_law_1245 dL_law_1246 dL_law_1248 dL_law_1249 dL_law_1250 ?_
  refine l_arg (j := 2) F hX hbl hbA (by omega) hL rfl rfl rfl kc_2 nc_2.symm dL_law_1251 dL_law_1252 dL_law_1254 dL_law_1255 dL_law_1256 ?_
  refine l_callI (As := [.int (xs (i + 1)), .int (xs (i + 2))]) F hEx mv_L_139 (f_X12_together_ok h2) rfl rfl ok_28 ⟨Nat.le_of_ble_eq_true rfl, Nat.le_of_ble_eq_true rfl⟩ (Nat.le_of_ble_eq_true rfl) hcs dL_law_1257 ?_
  refine l_icmp_eq F 1992 dL_law_1260 rfl (fun _ => ?_) (fun q => absurd he q)
  exact kk _ hI2
theorem case_29 (X : LX p s m meth c w A b Ls xs) (hEx : gKeep w Ex) (hi : i + 6 ≤ Ls) (hcs : ce ≤ room_1.cells ∧ sl ≤ room_1.slots) (hs : SS1 Inv f_X11_alone f_X12_alone) (hI : Inv σ) (kk : ∀ σ', Inv σ' → GL p l e room_1 s m #[Value.ref b] below meth c 7 w A Q Ex 1992 [some (.ref b), some (.ref (w.2.1 0 0)), some (.ref (w.2.1 28 0)), some (.ref qo), some (.int (nI i)), x5, x6] [] σ' ce sl) : GL p l e room_1 s m #[Value.ref b] below meth c 7 w A Q Ex 1265 [some (.ref b), some (.ref (w.2.1 0 0)), some (.ref (w.2.1 28 0)), some (.ref qo), some (.int (nI i)), x5, x6] [] σ ce sl := by
  obtain ⟨F, hX, hbl, hbA, hL⟩ := X
  obtain ⟨r1, r2, h1, h2, he, hI2⟩ := hs (xs (i + 1)) σ hI
  refine l_aload_n F dL_law_1265 rfl ?_
  refine l_arg (j := 1) F hX hbl hbA (by omega) hL rfl rfl rfl kc_1 nc_1.symm dL_law_1266 dL_law_1267 dL_law_1269 dL_law_1270 dL_law_1271 ?_
  refine l_callI (As := [.int (xs (i + 1))]) F hEx mv_L_140 (f_X11_alone_ok h1) rfl rfl ok_0 ⟨Nat.le_of_ble_eq_true rfl, Nat.le_of_ble_eq_true rfl⟩ (Nat.le_of_ble_eq_true rfl) hcs dL_law_1272 ?_
  refine l_aload_n F dL_law_1275 rfl ?_
  refine l_arg (j := 1) F hX hbl hbA (by omega) hL rfl rfl rfl kc_1 nc_1.symm dL_law_1276 dL_law_1277 dL_law_1279 dL_law_1280 dL_law_1281 ?_
  refine l_callI (As := [.int (xs (i + 1))]) F hEx mv_L_143 (f_X12_alone_ok h2) rfl rfl ok_28 ⟨Nat.le_of_ble_eq_true rfl, Nat.le_of_ble_eq_true rfl⟩ (Nat.le_of_ble_eq_true rfl) hcs dL_law_1282 ?_
  refine l_icmp_eq F 1992 dL_law_1285 rfl (fun _ => ?_) (fun q => absurd he q)
  exact kk _ hI2
theorem case_30 (X : LX p s m meth c w A b Ls xs) (hEx : gKeep w Ex) (hi : i + 6 ≤ Ls) (hcs : ce ≤ room_1.cells ∧ sl ≤ room_1.slots) (hs : SS3 Inv f_X11_chase f_X12_chase) (hI : Inv σ) (kk : ∀ σ', Inv σ' → GL p l e room_1 s m #[Value.ref b] below meth c 7 w A Q Ex 1992 [some (.ref b), some (.ref (w.2.1 0 0)), some (.ref (w.2.1 28 0)), some (.ref qo), some (.int (nI i)), x5, x6] [] σ' ce sl) : GL p l e room_1 s m #[Value.ref b] below meth c 7 w A Q Ex 1290 [some (.ref b), some (.ref (w.2.1 0 0)), some (.ref (w.2.1 28 0)), some (.ref qo), some (.int (nI i)), x5, x6] [] σ ce sl := by
  obtain ⟨F, hX, hbl, hbA, hL⟩ := X
  obtain ⟨r1, r2, h1, h2, he, hI2⟩ := hs (xs (i + 1)) (xs (i + 2)) (xs (i + 3)) σ hI
  refine l_aload_n F dL_law_1290 rfl ?_
  refine l_arg (j := 1) F hX hbl hbA (by omega) hL rfl rfl rfl kc_1 nc_1.symm dL_law_1291 dL_law_1292 dL_law_1294 dL_law_1295 dL_law_1296 ?_
  refine l_arg (j := 2) F hX hbl hbA (by omega) hL rfl rfl rfl kc_2 nc_2.symm dL_law_1297 dL_law_1298 dL_law_1300 dL_law_1301 dL_law_1302 ?_
  refine l_arg (j := 3) F hX hbl hbA (by omega) hL rfl rfl rfl kc_3 nc_3.symm dL_law_1303 dL_law_1304 dL_law_1306 dL_law_1307 dL_law_1308 ?_
  refine l_callI (As := [.int (xs (i + 1)), .int (xs (i + 2)), .int (xs (i + 3))]) F hEx mv_L_144 (f_X11_chase_ok h1) rfl rfl ok_0 ⟨Nat.le_of_ble_eq_true rfl, Nat.le_of_ble_eq_true rfl⟩ (Nat.le_of_ble_eq_true rfl) hcs dL_law_1309 ?_
  refine l_aload_n F dL_law_1312 rfl ?_
  refine l_arg (j := 1) F hX hbl hbA (by omega) hL rfl rfl rfl kc_1 nc_1.symm dL_law_1313 dL_law_1314 dL_law_1316 dL_law_1317 dL_law_1318 ?_
  refine l_arg (j := 2) F hX hbl hbA (by omega) hL rfl rfl rfl kc_2 nc_2.symm dL_law_1319 dL_law_1320 dL_law_1322 dL_law_1323 dL_law_1324 ?_
  refine l_arg (j := 3) F hX hbl hbA (by omega) hL rfl rfl rfl kc_3 nc_3.symm dL_law_1325 dL_law_1326 dL_law_1328 dL_law_1329 dL_law_1330 ?_
  refine l_callI (As := [.int (xs (i + 1)), .int (xs (i + 2)), .int (xs (i + 3))]) F hEx mv_L_147 (f_X12_chase_ok h2) rfl rfl ok_28 ⟨Nat.le_of_ble_eq_true rfl, Nat.le_of_ble_eq_true rfl⟩ (Nat.le_of_ble_eq_true rfl) hcs dL_law_1331 ?_
  refine l_icmp_eq F 1992 dL_law_1334 rfl (fun _ => ?_) (fun q => absurd he q)
  exact kk _ hI2
theorem case_31 (X : LX p s m meth c w A b Ls xs) (hEx : gKeep w Ex) (hi : i + 6 ≤ Ls) (hcs : ce ≤ room_1.cells ∧ sl ≤ room_1.slots) (hs : SS2 Inv f_X11_team f_X12_team) (hI : Inv σ) (kk : ∀ σ', Inv σ' → GL p l e room_1 s m #[Value.ref b] below meth c 7 w A Q Ex 1992 [some (.ref b), some (.ref (w.2.1 0 0)), some (.ref (w.2.1 28 0)), some (.ref qo), some (.int (nI i)), x5, x6] [] σ' ce sl) : GL p l e room_1 s m #[Value.ref b] below meth c 7 w A Q Ex 1339 [some (.ref b), some (.ref (w.2.1 0 0)), some (.ref (w.2.1 28 0)), some (.ref qo), some (.int (nI i)), x5, x6] [] σ ce sl := by
  obtain ⟨F, hX, hbl, hbA, hL⟩ := X
  obtain ⟨r1, r2, h1, h2, he, hI2⟩ := hs (xs (i + 1)) (xs (i + 2)) σ hI
  refine l_aload_n F dL_law_1339 rfl ?_
  refine l_arg (j := 1) F hX hbl hbA (by omega) hL rfl rfl rfl kc_1 nc_1.symm dL_law_1340 dL_law_1341 dL_law_1343 dL_law_1344 dL_law_1345 ?_
  refine l_arg (j := 2) F hX hbl hbA (by omega) hL rfl rfl rfl kc_2 nc_2.symm dL_law_1346 dL_law_1347 dL_law_1349 dL_law_1350 dL_law_1351 ?_
  refine l_callI (As := [.int (xs (i + 1)), .int (xs (i + 2))]) F hEx mv_L_148 (f_X11_team_ok h1) rfl rfl ok_0 ⟨Nat.le_of_ble_eq_true rfl, Nat.le_of_ble_eq_true rfl⟩ (Nat.le_of_ble_eq_true rfl) hcs dL_law_1352 ?_
  refine l_aload_n F dL_law_1355 rfl ?_
  refine l_arg (j := 1) F hX hbl hbA (by omega) hL rfl rfl rfl kc_1 nc_1.symm dL_law_1356 dL_law_1357 dL_law_1359 dL_law_1360 dL_law_1361 ?_
  refine l_arg (j := 2) F hX hbl hbA (by omega) hL rfl rfl rfl kc_2 nc_2.symm dL_law_1362 dL_law_1363 dL_law_1365 dL_law_1366 dL_law_1367 ?_
  refine l_callI (As := [.int (xs (i + 1)), .int (xs (i + 2))]) F hEx mv_L_151 (f_X12_team_ok h2) rfl rfl ok_28 ⟨Nat.le_of_ble_eq_true rfl, Nat.le_of_ble_eq_true rfl⟩ (Nat.le_of_ble_eq_true rfl) hcs dL_law_1368 ?_
  refine l_icmp_eq F 1992 dL_law_1371 rfl (fun _ => ?_) (fun q => absurd he q)
  exact kk _ hI2
theorem case_32 (X : LX p s m meth c w A b Ls xs) (hEx : gKeep w Ex) (hi : i + 6 ≤ Ls) (hcs : ce ≤ room_1.cells ∧ sl ≤ room_1.slots) (hs : SS1 Inv f_X11_mate f_X12_mate) (hI : Inv σ) (kk : ∀ σ', Inv σ' → GL p l e room_1 s m #[Value.ref b] below meth c 7 w A Q Ex 1992 [some (.ref b), some (.ref (w.2.1 0 0)), some (.ref (w.2.1 28 0)), some (.ref qo), some (.int (nI i)), x5, x6] [] σ' ce sl) : GL p l e room_1 s m #[Value.ref b] below meth c 7 w A Q Ex 1376 [some (.ref b), some (.ref (w.2.1 0 0)), some (.ref (w.2.1 28 0)), some (.ref qo), some (.int (nI i)), x5, x6] [] σ ce sl := by
  obtain ⟨F, hX, hbl, hbA, hL⟩ := X
  obtain ⟨r1, r2, h1, h2, he, hI2⟩ := hs (xs (i + 1)) σ hI
  refine l_aload_n F dL_law_1376 rfl ?_
  refine l_arg (j := 1) F hX hbl hbA (by omega) hL rfl rfl rfl kc_1 nc_1.symm dL_law_1377 dL_law_1378 dL_law_1380 dL_law_1381 dL_law_1382 ?_
  refine l_callI (As := [.int (xs (i + 1))]) F hEx mv_L_152 (f_X11_mate_ok h1) rfl rfl ok_0 ⟨Nat.le_of_ble_eq_true rfl, Nat.le_of_ble_eq_true rfl⟩ (Nat.le_of_ble_eq_true rfl) hcs dL_law_1383 ?_
  refine l_aload_n F dL_law_1386 rfl ?_
  refine l_arg (j := 1) F hX hbl hbA (by omega) hL rfl rfl rfl kc_1 nc_1.symm dL_law_1387 dL_law_1388 dL_law_1390 dL_law_1391 dL_law_1392 ?_
  refine l_callI (As := [.int (xs (i + 1))]) F hEx mv_L_155 (f_X12_mate_ok h2) rfl rfl ok_28 ⟨Nat.le_of_ble_eq_true rfl, Nat.le_of_ble_eq_true rfl⟩ (Nat.le_of_ble_eq_true rfl) hcs dL_law_1393 ?_
  refine l_icmp_eq F 1992 dL_law_1396 rfl (fun _ => ?_) (fun q => absurd he q)
  exact kk _ hI2
theorem case_33 (X : LX p s m meth c w A b Ls xs) (hEx : gKeep w Ex) (hi : i + 6 ≤ Ls) (hcs : ce ≤ room_1.cells ∧ sl ≤ room_1.slots) (hs : SS2 Inv f_X11_passes f_X12_passes) (hI : Inv σ) (kk : ∀ σ', Inv σ' → GL p l e room_1 s m #[Value.ref b] below meth c 7 w A Q Ex 1992 [some (.ref b), some (.ref (w.2.1 0 0)), some (.ref (w.2.1 28 0)), some (.ref qo), some (.int (nI i)), x5, x6] [] σ' ce sl) : GL p l e room_1 s m #[Value.ref b] below meth c 7 w A Q Ex 1401 [some (.ref b), some (.ref (w.2.1 0 0)), some (.ref (w.2.1 28 0)), some (.ref qo), some (.int (nI i)), x5, x6] [] σ ce sl := by
  obtain ⟨F, hX, hbl, hbA, hL⟩ := X
  obtain ⟨r1, r2, h1, h2, he, hI2⟩ := hs (xs (i + 1)) (xs (i + 2)) σ hI
  refine l_aload_n F dL_law_1401 rfl ?_
  refine l_arg (j := 1) F hX hbl hbA (by omega) hL rfl rfl rfl kc_1 nc_1.symm dL_law_1402 dL_law_1403 dL_law_1405 dL_law_1406 dL_law_1407 ?_
  refine l_arg (j := 2) F hX hbl hbA (by omega) hL rfl rfl rfl kc_2 nc_2.symm dL_law_1408 dL_law_1409 dL_law_1411 dL_law_1412 dL_law_1413 ?_
  refine l_callI (As := [.int (xs (i + 1)), .int (xs (i + 2))]) F hEx mv_L_156 (f_X11_passes_ok h1) rfl rfl ok_0 ⟨Nat.le_of_ble_eq_true rfl, Nat.le_of_ble_eq_true rfl⟩ (Nat.le_of_ble_eq_true rfl) hcs dL_law_1414 ?_
  refine l_aload_n F dL_law_1417 rfl ?_
  refine l_arg (j := 1) F hX hbl hbA (by omega) hL rfl rfl rfl kc_1 nc_1.symm dL_law_1418 dL_law_1419 dL_law_1421 dL_law_1422 dL_law_1423 ?_
  refine l_arg (j := 2) F hX hbl hbA (by omega) hL rfl rfl rfl kc_2 nc_2.symm dL_law_1424 dL_law_1425 dL_law_1427 dL_law_1428 dL_law_1429 ?_
  refine l_callI (As := [.int (xs (i + 1)), .int (xs (i + 2))]) F hEx mv_L_159 (f_X12_passes_ok h2) rfl rfl ok_28 ⟨Nat.le_of_ble_eq_true rfl, Nat.le_of_ble_eq_true rfl⟩ (Nat.le_of_ble_eq_true rfl) hcs dL_law_1430 ?_
  refine l_icmp_eq F 1992 dL_law_1433 rfl (fun _ => ?_) (fun q => absurd he q)
  exact kk _ hI2
theorem case_34 (X : LX p s m meth c w A b Ls xs) (hEx : gKeep w Ex) (hi : i + 6 ≤ Ls) (hcs : ce ≤ room_1.cells ∧ sl ≤ room_1.slots) (hs : SS1 Inv f_X11_crowd f_X12_crowd) (hI : Inv σ) (kk : ∀ σ', Inv σ' → GL p l e room_1 s m #[Value.ref b] below meth c 7 w A Q Ex 1992 [some (.ref b), some (.ref (w.2.1 0 0)), some (.ref (w.2.1 28 0)), some (.ref qo), some (.int (nI i)), x5, x6] [] σ' ce sl) : GL p l e room_1 s m #[Value.ref b] below meth c 7 w A Q Ex 1438 [some (.ref b), some (.ref (w.2.1 0 0)), some (.ref (w.2.1 28 0)), some (.ref qo), some (.int (nI i)), x5, x6] [] σ ce sl := by
  obtain ⟨F, hX, hbl, hbA, hL⟩ := X
  obtain ⟨r1, r2, h1, h2, he, hI2⟩ := hs (xs (i + 1)) σ hI
  refine l_aload_n F dL_law_1438 rfl ?_
  refine l_arg (j := 1) F hX hbl hbA (by omega) hL rfl rfl rfl kc_1 nc_1.symm dL_law_1439 dL_law_1440 dL_law_1442 dL_law_1443 dL_law_1444 ?_
  refine l_callI (As := [.int (xs (i + 1))]) F hEx mv_L_160 (f_X11_crowd_ok h1) rfl rfl ok_0 ⟨Nat.le_of_ble_eq_true rfl, Nat.le_of_ble_eq_true rfl⟩ (Nat.le_of_ble_eq_true rfl) hcs dL_law_1445 ?_
  refine l_aload_n F dL_law_1448 rfl ?_
  refine l_arg (j := 1) F hX hbl hbA (by omega) hL rfl rfl rfl kc_1 nc_1.symm dL_law_1449 dL_law_1450 dL_law_1452 dL_law_1453 dL_law_1454 ?_
  refine l_callI (As := [.int (xs (i + 1))]) F hEx mv_L_163 (f_X12_crowd_ok h2) rfl rfl ok_28 ⟨Nat.le_of_ble_eq_true rfl, Nat.le_of_ble_eq_true rfl⟩ (Nat.le_of_ble_eq_true rfl) hcs dL_law_1455 ?_
  refine l_icmp_eq F 1992 dL_law_1458 rfl (fun _ => ?_) (fun q => absurd he q)
  exact kk _ hI2
theorem case_35 (X : LX p s m meth c w A b Ls xs) (hEx : gKeep w Ex) (hi : i + 6 ≤ Ls) (hcs : ce ≤ room_1.cells ∧ sl ≤ room_1.slots) (hs : SS3 Inv f_X11_over f_X12_over) (hI : Inv σ) (kk : ∀ σ', Inv σ' → GL p l e room_1 s m #[Value.ref b] below meth c 7 w A Q Ex 1992 [some (.ref b), some (.ref (w.2.1 0 0)), some (.ref (w.2.1 28 0)), some (.ref qo), some (.int (nI i)), x5, x6] [] σ' ce sl) : GL p l e room_1 s m #[Value.ref b] below meth c 7 w A Q Ex 1463 [some (.ref b), some (.ref (w.2.1 0 0)), some (.ref (w.2.1 28 0)), some (.ref qo), some (.int (nI i)), x5, x6] [] σ ce sl := by
  obtain ⟨F, hX, hbl, hbA, hL⟩ := X
  obtain ⟨r1, r2, h1, h2, he, hI2⟩ := hs (xs (i + 1)) (xs (i + 2)) (xs (i + 3)) σ hI
  refine l_aload_n F dL_law_1463 rfl ?_
  refine l_arg (j := 1) F hX hbl hbA (by omega) hL rfl rfl rfl kc_1 nc_1.symm dL_law_1464 dL_law_1465 dL_law_1467 dL_law_1468 dL_law_1469 ?_
  refine l_arg (j := 2) F hX hbl hbA (by omega) hL rfl rfl rfl kc_2 nc_2.symm dL_law_1470 dL_law_1471 dL_law_1473 dL_law_1474 dL_law_1475 ?_
  refine l_arg (j := 3) F hX hbl hbA (by omega) hL rfl rfl rfl kc_3 nc_3.symm dL_law_1476 dL_law_1477 dL_law_1479 dL_law_1480 dL_law_1481 ?_
  refine l_callI (As := [.int (xs (i + 1)), .int (xs (i + 2)), .int (xs (i + 3))]) F hEx mv_L_164 (f_X11_over_ok h1) rfl rfl ok_0 ⟨Nat.le_of_ble_eq_true rfl, Nat.le_of_ble_eq_true rfl⟩ (Nat.le_of_ble_eq_true rfl) hcs dL_law_1482 ?_
  refine l_aload_n F dL_law_1485 rfl ?_
  refine l_arg (j := 1) F hX hbl hbA (by omega) hL rfl rfl rfl kc_1 nc_1.symm dL_law_1486 dL_law_1487 dL_law_1489 dL_law_1490 dL_law_1491 ?_
  refine l_arg (j := 2) F hX hbl hbA (by omega) hL rfl rfl rfl kc_2 nc_2.symm dL_law_1492 dL_law_1493 dL_law_1495 dL_law_1496 dL_law_1497 ?_
  refine l_arg (j := 3) F hX hbl hbA (by omega) hL rfl rfl rfl kc_3 nc_3.symm dL_law_1498 dL_law_1499 dL_law_1501 dL_law_1502 dL_law_1503 ?_
  refine l_callI (As := [.int (xs (i + 1)), .int (xs (i + 2)), .int (xs (i + 3))]) F hEx mv_L_167 (f_X12_over_ok h2) rfl rfl ok_28 ⟨Nat.le_of_ble_eq_true rfl, Nat.le_of_ble_eq_true rfl⟩ (Nat.le_of_ble_eq_true rfl) hcs dL_law_1504 ?_
  refine l_icmp_eq F 1992 dL_law_1507 rfl (fun _ => ?_) (fun q => absurd he q)
  exact kk _ hI2
theorem case_36 (X : LX p s m meth c w A b Ls xs) (hEx : gKeep w Ex) (hi : i + 6 ≤ Ls) (hcs : ce ≤ room_1.cells ∧ sl ≤ room_1.slots) (hs : SS2 Inv f_X11_common f_X12_common) (hI : Inv σ) (kk : ∀ σ', Inv σ' → GL p l e room_1 s m #[Value.ref b] below meth c 7 w A Q Ex 1992 [some (.ref b), some (.ref (w.2.1 0 0)), some (.ref (w.2.1 28 0)), some (.ref qo), some (.int (nI i)), x5, x6] [] σ' ce sl) : GL p l e room_1 s m #[Value.ref b] below meth c 7 w A Q Ex 1512 [some (.ref b), some (.ref (w.2.1 0 0)), some (.ref (w.2.1 28 0)), some (.ref qo), some (.int (nI i)), x5, x6] [] σ ce sl := by
  obtain ⟨F, hX, hbl, hbA, hL⟩ := X
  obtain ⟨r1, r2, h1, h2, he, hI2⟩ := hs (xs (i + 1)) (xs (i + 2)) σ hI
  refine l_aload_n F dL_law_1512 rfl ?_
  refine l_arg (j := 1) F hX hbl hbA (by omega) hL rfl rfl rfl kc_1 nc_1.symm dL_law_1513 dL_law_1514 dL_law_1516 dL_law_1517 dL_law_1518 ?_
  refine l_arg (j := 2) F hX hbl hbA (by omega) hL rfl rfl rfl kc_2 nc_2.symm dL_law_1519 dL_law_1520 dL_law_1522 dL_law_1523 dL_law_1524 ?_
  refine l_callI (As := [.int (xs (i + 1)), .int (xs (i + 2))]) F hEx mv_L_168 (f_X11_common_ok h1) rfl rfl ok_0 ⟨Nat.le_of_ble_eq_true rfl, Nat.le_of_ble_eq_true rfl⟩ (Nat.le_of_ble_eq_true rfl) hcs dL_law_1525 ?_
  refine l_aload_n F dL_law_1528 rfl ?_
  refine l_arg (j := 1) F hX hbl hbA (by omega) hL rfl rfl rfl kc_1 nc_1.symm dL_law_1529 dL_law_1530 dL_law_1532 dL_law_1533 dL_law_1534 ?_
  refine l_arg (j := 2) F hX hbl hbA (by omega) hL rfl rfl rfl kc_2 nc_2.symm dL_law_1535 dL_law_1536 dL_law_1538 dL_law_1539 dL_law_1540 ?_
  refine l_callI (As := [.int (xs (i + 1)), .int (xs (i + 2))]) F hEx mv_L_171 (f_X12_common_ok h2) rfl rfl ok_28 ⟨Nat.le_of_ble_eq_true rfl, Nat.le_of_ble_eq_true rfl⟩ (Nat.le_of_ble_eq_true rfl) hcs dL_law_1541 ?_
  refine l_icmp_eq F 1992 dL_law_1544 rfl (fun _ => ?_) (fun q => absurd he q)
  exact kk _ hI2
theorem case_37 (X : LX p s m meth c w A b Ls xs) (hEx : gKeep w Ex) (hi : i + 6 ≤ Ls) (hcs : ce ≤ room_1.cells ∧ sl ≤ room_1.slots) (hs : SS3 Inv f_X11_add f_X12_add) (hI : Inv σ) (kk : ∀ σ', Inv σ' → GL p l e room_1 s m #[Value.ref b] below meth c 7 w A Q Ex 1992 [some (.ref b), some (.ref (w.2.1 0 0)), some (.ref (w.2.1 28 0)), some (.ref qo), some (.int (nI i)), x5, x6] [] σ' ce sl) : GL p l e room_1 s m #[Value.ref b] below meth c 7 w A Q Ex 1549 [some (.ref b), some (.ref (w.2.1 0 0)), some (.ref (w.2.1 28 0)), some (.ref qo), some (.int (nI i)), x5, x6] [] σ ce sl := by
  obtain ⟨F, hX, hbl, hbA, hL⟩ := X
  obtain ⟨r1, r2, h1, h2, he, hI2⟩ := hs (xs (i + 1)) (xs (i + 2)) (xs (i + 3)) σ hI
  refine l_aload_n F dL_law_1549 rfl ?_
  refine l_arg (j := 1) F hX hbl hbA (by omega) hL rfl rfl rfl kc_1 nc_1.symm dL_law_1550 dL_law_1551 dL_law_1553 dL_law_1554 dL_law_1555 ?_
  refine l_arg (j := 2) F hX hbl hbA (by omega) hL rfl rfl rfl kc_2 nc_2.symm dL_law_1556 dL_law_1557 dL_law_1559 dL_law_1560 dL_law_1561 ?_
  refine l_arg (j := 3) F hX hbl hbA (by omega) hL rfl rfl rfl kc_3 nc_3.symm dL_law_1562 dL_law_1563 dL_law_1565 dL_law_1566 dL_law_1567 ?_
  refine l_callI (As := [.int (xs (i + 1)), .int (xs (i + 2)), .int (xs (i + 3))]) F hEx mv_L_172 (f_X11_add_ok h1) rfl rfl ok_0 ⟨Nat.le_of_ble_eq_true rfl, Nat.le_of_ble_eq_true rfl⟩ (Nat.le_of_ble_eq_true rfl) hcs dL_law_1568 ?_
  refine l_aload_n F dL_law_1571 rfl ?_
  refine l_arg (j := 1) F hX hbl hbA (by omega) hL rfl rfl rfl kc_1 nc_1.symm dL_law_1572 dL_law_1573 dL_law_1575 dL_law_1576 dL_law_1577 ?_
  refine l_arg (j := 2) F hX hbl hbA (by omega) hL rfl rfl rfl kc_2 nc_2.symm dL_law_1578 dL_law_1579 dL_law_1581 dL_law_1582 dL_law_1583 ?_
  refine l_arg (j := 3) F hX hbl hbA (by omega) hL rfl rfl rfl kc_3 nc_3.symm dL_law_1584 dL_law_1585 dL_law_1587 dL_law_1588 dL_law_1589 ?_
  refine l_callI (As := [.int (xs (i + 1)), .int (xs (i + 2)), .int (xs (i + 3))]) F hEx mv_L_175 (f_X12_add_ok h2) rfl rfl ok_28 ⟨Nat.le_of_ble_eq_true rfl, Nat.le_of_ble_eq_true rfl⟩ (Nat.le_of_ble_eq_true rfl) hcs dL_law_1590 ?_
  refine l_icmp_eq F 1992 dL_law_1593 rfl (fun _ => ?_) (fun q => absurd he q)
  exact kk _ hI2
theorem case_38 (X : LX p s m meth c w A b Ls xs) (hEx : gKeep w Ex) (hi : i + 6 ≤ Ls) (hcs : ce ≤ room_1.cells ∧ sl ≤ room_1.slots) (hs : SS2 Inv f_X11_drop f_X12_drop) (hI : Inv σ) (kk : ∀ σ', Inv σ' → GL p l e room_1 s m #[Value.ref b] below meth c 7 w A Q Ex 1992 [some (.ref b), some (.ref (w.2.1 0 0)), some (.ref (w.2.1 28 0)), some (.ref qo), some (.int (nI i)), x5, x6] [] σ' ce sl) : GL p l e room_1 s m #[Value.ref b] below meth c 7 w A Q Ex 1598 [some (.ref b), some (.ref (w.2.1 0 0)), some (.ref (w.2.1 28 0)), some (.ref qo), some (.int (nI i)), x5, x6] [] σ ce sl := by
  obtain ⟨F, hX, hbl, hbA, hL⟩ := X
  obtain ⟨r1, r2, h1, h2, he, hI2⟩ := hs (xs (i + 1)) (xs (i + 2)) σ hI
  refine l_aload_n F dL_law_1598 rfl ?_
  refine l_arg (j := 1) F hX hbl hbA (by omega) hL rfl rfl rfl kc_1 nc_1.symm dL_law_1599 dL_law_1600 dL_law_1602 dL_law_1603 dL_law_1604 ?_
  refine l_arg (j := 2) F hX hbl hbA (by omega) hL rfl rfl rfl kc_2 nc_2.symm dL_law_1605 dL_law_1606 dL_law_1608 dL_law_1609 dL_law_1610 ?_
  refine l_callI (As := [.int (xs (i + 1)), .int (xs (i + 2))]) F hEx mv_L_176 (f_X11_drop_ok h1) rfl rfl ok_0 ⟨Nat.le_of_ble_eq_true rfl, Nat.le_of_ble_eq_true rfl⟩ (Nat.le_of_ble_eq_true rfl) hcs dL_law_1611 ?_
  refine l_aload_n F dL_law_1614 rfl ?_
  refine l_arg (j := 1) F hX hbl hbA (by omega) hL rfl rfl rfl kc_1 nc_1.symm dL_law_1615 dL_law_1616 dL_law_1618 dL_law_1619 dL_law_1620 ?_
  refine l_arg (j := 2) F hX hbl hbA (by omega) hL rfl rfl rfl kc_2 nc_2.symm dL_law_1621 dL_law_1622 dL_law_1624 dL_law_1625 dL_law_1626 ?_
  refine l_callI (As := [.int (xs (i + 1)), .int (xs (i + 2))]) F hEx mv_L_179 (f_X12_drop_ok h2) rfl rfl ok_28 ⟨Nat.le_of_ble_eq_true rfl, Nat.le_of_ble_eq_true rfl⟩ (Nat.le_of_ble_eq_true rfl) hcs dL_law_1627 ?_
  refine l_icmp_eq F 1992 dL_law_1630 rfl (fun _ => ?_) (fun q => absurd he q)
  exact kk _ hI2
theorem case_39 (X : LX p s m meth c w A b Ls xs) (hEx : gKeep w Ex) (hi : i + 6 ≤ Ls) (hcs : ce ≤ room_1.cells ∧ sl ≤ room_1.slots) (hs : SS2 Inv f_X11_start f_X12_start) (hI : Inv σ) (kk : ∀ σ', Inv σ' → GL p l e room_1 s m #[Value.ref b] below meth c 7 w A Q Ex 1992 [some (.ref b), some (.ref (w.2.1 0 0)), some (.ref (w.2.1 28 0)), some (.ref qo), some (.int (nI i)), x5, x6] [] σ' ce sl) : GL p l e room_1 s m #[Value.ref b] below meth c 7 w A Q Ex 1635 [some (.ref b), some (.ref (w.2.1 0 0)), some (.ref (w.2.1 28 0)), some (.ref qo), some (.int (nI i)), x5, x6] [] σ ce sl := by
  obtain ⟨F, hX, hbl, hbA, hL⟩ := X
  obtain ⟨r1, r2, h1, h2, he, hI2⟩ := hs (xs (i + 1)) (xs (i + 2)) σ hI
  refine l_aload_n F dL_law_1635 rfl ?_
  refine l_arg (j := 1) F hX hbl hbA (by omega) hL rfl rfl rfl kc_1 nc_1.symm dL_law_1636 dL_law_1637 dL_law_1639 dL_law_1640 dL_law_1641 ?_
  refine l_arg (j := 2) F hX hbl hbA (by omega) hL rfl rfl rfl kc_2 nc_2.symm dL_law_1642 dL_law_1643 dL_law_1645 dL_law_1646 dL_law_1647 ?_
  refine l_callI (As := [.int (xs (i + 1)), .int (xs (i + 2))]) F hEx mv_L_180 (f_X11_start_ok h1) rfl rfl ok_0 ⟨Nat.le_of_ble_eq_true rfl, Nat.le_of_ble_eq_true rfl⟩ (Nat.le_of_ble_eq_true rfl) hcs dL_law_1648 ?_
  refine l_aload_n F dL_law_1651 rfl ?_
  refine l_arg (j := 1) F hX hbl hbA (by omega) hL rfl rfl rfl kc_1 nc_1.symm dL_law_1652 dL_law_1653 dL_law_1655 dL_law_1656 dL_law_1657 ?_
  refine l_arg (j := 2) F hX hbl hbA (by omega) hL rfl rfl rfl kc_2 nc_2.symm dL_law_1658 dL_law_1659 dL_law_1661 dL_law_1662 dL_law_1663 ?_
  refine l_callI (As := [.int (xs (i + 1)), .int (xs (i + 2))]) F hEx mv_L_183 (f_X12_start_ok h2) rfl rfl ok_28 ⟨Nat.le_of_ble_eq_true rfl, Nat.le_of_ble_eq_true rfl⟩ (Nat.le_of_ble_eq_true rfl) hcs dL_law_1664 ?_
  refine l_icmp_eq F 1992 dL_law_1667 rfl (fun _ => ?_) (fun q => absurd he q)
  exact kk _ hI2
theorem case_40 (X : LX p s m meth c w A b Ls xs) (hEx : gKeep w Ex) (hi : i + 6 ≤ Ls) (hcs : ce ≤ room_1.cells ∧ sl ≤ room_1.slots) (hs : SS2 Inv f_X11_finish f_X12_finish) (hI : Inv σ) (kk : ∀ σ', Inv σ' → GL p l e room_1 s m #[Value.ref b] below meth c 7 w A Q Ex 1992 [some (.ref b), some (.ref (w.2.1 0 0)), some (.ref (w.2.1 28 0)), some (.ref qo), some (.int (nI i)), x5, x6] [] σ' ce sl) : GL p l e room_1 s m #[Value.ref b] below meth c 7 w A Q Ex 1672 [some (.ref b), some (.ref (w.2.1 0 0)), some (.ref (w.2.1 28 0)), some (.ref qo), some (.int (nI i)), x5, x6] [] σ ce sl := by
  obtain ⟨F, hX, hbl, hbA, hL⟩ := X
  obtain ⟨r1, r2, h1, h2, he, hI2⟩ := hs (xs (i + 1)) (xs (i + 2)) σ hI
  refine l_aload_n F dL_law_1672 rfl ?_
  refine l_arg (j := 1) F hX hbl hbA (by omega) hL rfl rfl rfl kc_1 nc_1.symm dL_law_1673 dL_law_1674 dL_law_1676 dL_law_1677 dL_law_1678 ?_
  refine l_arg (j := 2) F hX hbl hbA (by omega) hL rfl rfl rfl kc_2 nc_2.symm dL_law_1679 dL_law_1680 dL_law_1682 dL_law_1683 dL_law_1684 ?_
  refine l_callI (As := [.int (xs (i + 1)), .int (xs (i + 2))]) F hEx mv_L_184 (f_X11_finish_ok h1) rfl rfl ok_0 ⟨Nat.le_of_ble_eq_true rfl, Nat.le_of_ble_eq_true rfl⟩ (Nat.le_of_ble_eq_true rfl) hcs dL_law_1685 ?_
  refine l_aload_n F dL_law_1688 rfl ?_
  refine l_arg (j := 1) F hX hbl hbA (by omega) hL rfl rfl rfl kc_1 nc_1.symm dL_law_1689 dL_law_1690 dL_law_1692 dL_law_1693 dL_law_1694 ?_
  refine l_arg (j := 2) F hX hbl hbA (by omega) hL rfl rfl rfl kc_2 nc_2.symm dL_law_1695 dL_law_1696 dL_law_1698 dL_law_1699 dL_law_1700 ?_
  refine l_callI (As := [.int (xs (i + 1)), .int (xs (i + 2))]) F hEx mv_L_187 (f_X12_finish_ok h2) rfl rfl ok_28 ⟨Nat.le_of_ble_eq_true rfl, Nat.le_of_ble_eq_true rfl⟩ (Nat.le_of_ble_eq_true rfl) hcs dL_law_1701 ?_
  refine l_icmp_eq F 1992 dL_law_1704 rfl (fun _ => ?_) (fun q => absurd he q)
  exact kk _ hI2
theorem case_41 (X : LX p s m meth c w A b Ls xs) (hEx : gKeep w Ex) (hi : i + 6 ≤ Ls) (hcs : ce ≤ room_1.cells ∧ sl ≤ room_1.slots) (hs : SS2 Inv f_X11_move f_X12_move) (hI : Inv σ) (kk : ∀ σ', Inv σ' → GL p l e room_1 s m #[Value.ref b] below meth c 7 w A Q Ex 1992 [some (.ref b), some (.ref (w.2.1 0 0)), some (.ref (w.2.1 28 0)), some (.ref qo), some (.int (nI i)), x5, x6] [] σ' ce sl) : GL p l e room_1 s m #[Value.ref b] below meth c 7 w A Q Ex 1709 [some (.ref b), some (.ref (w.2.1 0 0)), some (.ref (w.2.1 28 0)), some (.ref qo), some (.int (nI i)), x5, x6] [] σ ce sl := by
  obtain ⟨F, hX, hbl, hbA, hL⟩ := X
  obtain ⟨r1, r2, h1, h2, he, hI2⟩ := hs (xs (i + 1)) (xs (i + 2)) σ hI
  refine l_aload_n F dL_law_1709 rfl ?_
  refine l_arg (j := 1) F hX hbl hbA (by omega) hL rfl rfl rfl kc_1 nc_1.symm dL_law_1710 dL_law_1711 dL_law_1713 dL_law_1714 dL_law_1715 ?_
  refine l_arg (j := 2) F hX hbl hbA (by omega) hL rfl rfl rfl kc_2 nc_2.symm dL_law_1716 dL_law_1717 dL_law_1719 dL_law_1720 dL_law_1721 ?_
  refine l_callI (As := [.int (xs (i + 1)), .int (xs (i + 2))]) F hEx mv_L_188 (f_X11_move_ok h1) rfl rfl ok_0 ⟨Nat.le_of_ble_eq_true rfl, Nat.le_of_ble_eq_true rfl⟩ (Nat.le_of_ble_eq_true rfl) hcs dL_law_1722 ?_
  refine l_aload_n F dL_law_1725 rfl ?_
  refine l_arg (j := 1) F hX hbl hbA (by omega) hL rfl rfl rfl kc_1 nc_1.symm dL_law_1726 dL_law_1727 dL_law_1729 dL_law_1730 dL_law_1731 ?_
  refine l_arg (j := 2) F hX hbl hbA (by omega) hL rfl rfl rfl kc_2 nc_2.symm dL_law_1732 dL_law_1733 dL_law_1735 dL_law_1736 dL_law_1737 ?_
  refine l_callI (As := [.int (xs (i + 1)), .int (xs (i + 2))]) F hEx mv_L_191 (f_X12_move_ok h2) rfl rfl ok_28 ⟨Nat.le_of_ble_eq_true rfl, Nat.le_of_ble_eq_true rfl⟩ (Nat.le_of_ble_eq_true rfl) hcs dL_law_1738 ?_
  refine l_icmp_eq F 1992 dL_law_1741 rfl (fun _ => ?_) (fun q => absurd he q)
  exact kk _ hI2
theorem case_42 (X : LX p s m meth c w A b Ls xs) (hEx : gKeep w Ex) (hi : i + 6 ≤ Ls) (hcs : ce ≤ room_1.cells ∧ sl ≤ room_1.slots) (hs : SS2 Inv f_X11_become f_X12_become) (hI : Inv σ) (kk : ∀ σ', Inv σ' → GL p l e room_1 s m #[Value.ref b] below meth c 7 w A Q Ex 1992 [some (.ref b), some (.ref (w.2.1 0 0)), some (.ref (w.2.1 28 0)), some (.ref qo), some (.int (nI i)), x5, x6] [] σ' ce sl) : GL p l e room_1 s m #[Value.ref b] below meth c 7 w A Q Ex 1746 [some (.ref b), some (.ref (w.2.1 0 0)), some (.ref (w.2.1 28 0)), some (.ref qo), some (.int (nI i)), x5, x6] [] σ ce sl := by
  obtain ⟨F, hX, hbl, hbA, hL⟩ := X
  obtain ⟨r1, r2, h1, h2, he, hI2⟩ := hs (xs (i + 1)) (xs (i + 2)) σ hI
  refine l_aload_n F dL_law_1746 rfl ?_
  refine l_arg (j := 1) F hX hbl hbA (by omega) hL rfl rfl rfl kc_1 nc_1.symm dL_law_1747 dL_law_1748 dL_law_1750 dL_law_1751 dL_law_1752 ?_
  refine l_arg (j := 2) F hX hbl hbA (by omega) hL rfl rfl rfl kc_2 nc_2.symm dL_law_1753 dL_law_1754 dL_law_1756 dL_law_1757 dL_law_1758 ?_
  refine l_callI (As := [.int (xs (i + 1)), .int (xs (i + 2))]) F hEx mv_L_192 (f_X11_become_ok h1) rfl rfl ok_0 ⟨Nat.le_of_ble_eq_true rfl, Nat.le_of_ble_eq_true rfl⟩ (Nat.le_of_ble_eq_true rfl) hcs dL_law_1759 ?_
  refine l_aload_n F dL_law_1762 rfl ?_
  refine l_arg (j := 1) F hX hbl hbA (by omega) hL rfl rfl rfl kc_1 nc_1.symm dL_law_1763 dL_law_1764 dL_law_1766 dL_law_1767 dL_law_1768 ?_
  refine l_arg (j := 2) F hX hbl hbA (by omega) hL rfl rfl rfl kc_2 nc_2.symm dL_law_1769 dL_law_1770 dL_law_1772 dL_law_1773 dL_law_1774 ?_
  refine l_callI (As := [.int (xs (i + 1)), .int (xs (i + 2))]) F hEx mv_L_195 (f_X12_become_ok h2) rfl rfl ok_28 ⟨Nat.le_of_ble_eq_true rfl, Nat.le_of_ble_eq_true rfl⟩ (Nat.le_of_ble_eq_true rfl) hcs dL_law_1775 ?_
  refine l_icmp_eq F 1992 dL_law_1778 rfl (fun _ => ?_) (fun q => absurd he q)
  exact kk _ hI2
theorem case_43 (X : LX p s m meth c w A b Ls xs) (hEx : gKeep w Ex) (hi : i + 6 ≤ Ls) (hcs : ce ≤ room_1.cells ∧ sl ≤ room_1.slots) (hs : SS3 Inv f_X11_recode f_X12_recode) (hI : Inv σ) (kk : ∀ σ', Inv σ' → GL p l e room_1 s m #[Value.ref b] below meth c 7 w A Q Ex 1992 [some (.ref b), some (.ref (w.2.1 0 0)), some (.ref (w.2.1 28 0)), some (.ref qo), some (.int (nI i)), x5, x6] [] σ' ce sl) : GL p l e room_1 s m #[Value.ref b] below meth c 7 w A Q Ex 1783 [some (.ref b), some (.ref (w.2.1 0 0)), some (.ref (w.2.1 28 0)), some (.ref qo), some (.int (nI i)), x5, x6] [] σ ce sl := by
  obtain ⟨F, hX, hbl, hbA, hL⟩ := X
  obtain ⟨r1, r2, h1, h2, he, hI2⟩ := hs (xs (i + 1)) (xs (i + 2)) (xs (i + 3)) σ hI
  refine l_aload_n F dL_law_1783 rfl ?_
  refine l_arg (j := 1) F hX hbl hbA (by omega) hL rfl rfl rfl kc_1 nc_1.symm dL_law_1784 dL_law_1785 dL_law_1787 dL_law_1788 dL_law_1789 ?_
  refine l_arg (j := 2) F hX hbl hbA (by omega) hL rfl rfl rfl kc_2 nc_2.symm dL_law_1790 dL_law_1791 dL_law_1793 dL_law_1794 dL_law_1795 ?_
  refine l_arg (j := 3) F hX hbl hbA (by omega) hL rfl rfl rfl kc_3 nc_3.symm dL_law_1796 dL_law_1797 dL_law_1799 dL_law_1800 dL_law_1801 ?_
  refine l_callI (As := [.int (xs (i + 1)), .int (xs (i + 2)), .int (xs (i + 3))]) F hEx mv_L_196 (f_X11_recode_ok h1) rfl rfl ok_0 ⟨Nat.le_of_ble_eq_true rfl, Nat.le_of_ble_eq_true rfl⟩ (Nat.le_of_ble_eq_true rfl) hcs dL_law_1802 ?_
  refine l_aload_n F dL_law_1805 rfl ?_
  refine l_arg (j := 1) F hX hbl hbA (by omega) hL rfl rfl rfl kc_1 nc_1.symm dL_law_1806 dL_law_1807 dL_law_1809 dL_law_1810 dL_law_1811 ?_
  refine l_arg (j := 2) F hX hbl hbA (by omega) hL rfl rfl rfl kc_2 nc_2.symm dL_law_1812 dL_law_1813 dL_law_1815 dL_law_1816 dL_law_1817 ?_
  refine l_arg (j := 3) F hX hbl hbA (by omega) hL rfl rfl rfl kc_3 nc_3.symm dL_law_1818 dL_law_1819 dL_law_1821 dL_law_1822 dL_law_1823 ?_
  refine l_callI (As := [.int (xs (i + 1)), .int (xs (i + 2)), .int (xs (i + 3))]) F hEx mv_L_199 (f_X12_recode_ok h2) rfl rfl ok_28 ⟨Nat.le_of_ble_eq_true rfl, Nat.le_of_ble_eq_true rfl⟩ (Nat.le_of_ble_eq_true rfl) hcs dL_law_1824 ?_
  refine l_icmp_eq F 1992 dL_law_1827 rfl (fun _ => ?_) (fun q => absurd he q)
  exact kk _ hI2
theorem case_44 (X : LX p s m meth c w A b Ls xs) (hEx : gKeep w Ex) (hi : i + 6 ≤ Ls) (hcs : ce ≤ room_1.cells ∧ sl ≤ room_1.slots) (hs : SS2 Inv f_X11_cancel f_X12_cancel) (hI : Inv σ) (kk : ∀ σ', Inv σ' → GL p l e room_1 s m #[Value.ref b] below meth c 7 w A Q Ex 1992 [some (.ref b), some (.ref (w.2.1 0 0)), some (.ref (w.2.1 28 0)), some (.ref qo), some (.int (nI i)), x5, x6] [] σ' ce sl) : GL p l e room_1 s m #[Value.ref b] below meth c 7 w A Q Ex 1832 [some (.ref b), some (.ref (w.2.1 0 0)), some (.ref (w.2.1 28 0)), some (.ref qo), some (.int (nI i)), x5, x6] [] σ ce sl := by
  obtain ⟨F, hX, hbl, hbA, hL⟩ := X
  obtain ⟨r1, r2, h1, h2, he, hI2⟩ := hs (xs (i + 1)) (xs (i + 2)) σ hI
  refine l_aload_n F dL_law_1832 rfl ?_
  refine l_arg (j := 1) F hX hbl hbA (by omega) hL rfl rfl rfl kc_1 nc_1.symm dL_law_1833 dL_law_1834 dL_law_1836 dL_law_1837 dL_law_1838 ?_
  refine l_arg (j := 2) F hX hbl hbA (by omega) hL rfl rfl rfl kc_2 nc_2.symm dL_law_1839 dL_law_1840 dL_law_1842 dL_law_1843 dL_law_1844 ?_
  refine l_callI (As := [.int (xs (i + 1)), .int (xs (i + 2))]) F hEx mv_L_200 (f_X11_cancel_ok h1) rfl rfl ok_0 ⟨Nat.le_of_ble_eq_true rfl, Nat.le_of_ble_eq_true rfl⟩ (Nat.le_of_ble_eq_true rfl) hcs dL_law_1845 ?_
  refine l_aload_n F dL_law_1848 rfl ?_
  refine l_arg (j := 1) F hX hbl hbA (by omega) hL rfl rfl rfl kc_1 nc_1.symm dL_law_1849 dL_law_1850 dL_law_1852 dL_law_1853 dL_law_1854 ?_
  refine l_arg (j := 2) F hX hbl hbA (by omega) hL rfl rfl rfl kc_2 nc_2.symm dL_law_1855 dL_law_1856 dL_law_1858 dL_law_1859 dL_law_1860 ?_
  refine l_callI (As := [.int (xs (i + 1)), .int (xs (i + 2))]) F hEx mv_L_203 (f_X12_cancel_ok h2) rfl rfl ok_28 ⟨Nat.le_of_ble_eq_true rfl, Nat.le_of_ble_eq_true rfl⟩ (Nat.le_of_ble_eq_true rfl) hcs dL_law_1861 ?_
  refine l_icmp_eq F 1992 dL_law_1864 rfl (fun _ => ?_) (fun q => absurd he q)
  exact kk _ hI2
theorem case_45 (X : LX p s m meth c w A b Ls xs) (hEx : gKeep w Ex) (hi : i + 6 ≤ Ls) (hcs : ce ≤ room_1.cells ∧ sl ≤ room_1.slots) (hs : SS0 Inv f_X11_undo f_X12_undo) (hI : Inv σ) (kk : ∀ σ', Inv σ' → GL p l e room_1 s m #[Value.ref b] below meth c 7 w A Q Ex 1992 [some (.ref b), some (.ref (w.2.1 0 0)), some (.ref (w.2.1 28 0)), some (.ref qo), some (.int (nI i)), x5, x6] [] σ' ce sl) : GL p l e room_1 s m #[Value.ref b] below meth c 7 w A Q Ex 1869 [some (.ref b), some (.ref (w.2.1 0 0)), some (.ref (w.2.1 28 0)), some (.ref qo), some (.int (nI i)), x5, x6] [] σ ce sl := by
  obtain ⟨F, hX, hbl, hbA, hL⟩ := X
  obtain ⟨r1, r2, h1, h2, he, hI2⟩ := hs  σ hI
  refine l_aload_n F dL_law_1869 rfl ?_
  refine l_callI (As := []) F hEx mv_L_204 (f_X11_undo_ok h1) rfl rfl ok_0 ⟨Nat.le_of_ble_eq_true rfl, Nat.le_of_ble_eq_true rfl⟩ (Nat.le_of_ble_eq_true rfl) hcs dL_law_1870 ?_
  refine l_aload_n F dL_law_1873 rfl ?_
  refine l_callI (As := []) F hEx mv_L_207 (f_X12_undo_ok h2) rfl rfl ok_28 ⟨Nat.le_of_ble_eq_true rfl, Nat.le_of_ble_eq_true rfl⟩ (Nat.le_of_ble_eq_true rfl) hcs dL_law_1874 ?_
  refine l_icmp_eq F 1992 dL_law_1877 rfl (fun _ => ?_) (fun q => absurd he q)
  exact kk _ hI2
theorem case_47 (X : LX p s m meth c w A b Ls xs) (hEx : gKeep w Ex) (hi : i + 6 ≤ Ls) (hcs : ce ≤ room_1.cells ∧ sl ≤ room_1.slots) (hs : SS0 Inv f_X11_size f_X12_size) (hI : Inv σ) (kk : ∀ σ', Inv σ' → GL p l e room_1 s m #[Value.ref b] below meth c 7 w A Q Ex 1992 [some (.ref b), some (.ref (w.2.1 0 0)), some (.ref (w.2.1 28 0)), some (.ref qo), some (.int (nI i)), x5, x6] [] σ' ce sl) : GL p l e room_1 s m #[Value.ref b] below meth c 7 w A Q Ex 1966 [some (.ref b), some (.ref (w.2.1 0 0)), some (.ref (w.2.1 28 0)), some (.ref qo), some (.int (nI i)), x5, x6] [] σ ce sl := by
  obtain ⟨F, hX, hbl, hbA, hL⟩ := X
  obtain ⟨r1, r2, h1, h2, he, hI2⟩ := hs  σ hI
  refine l_aload_n F dL_law_1966 rfl ?_
  refine l_callI (As := []) F hEx mv_L_217 (f_X11_size_ok h1) rfl rfl ok_0 ⟨Nat.le_of_ble_eq_true rfl, Nat.le_of_ble_eq_true rfl⟩ (Nat.le_of_ble_eq_true rfl) hcs dL_law_1967 ?_
  refine l_aload_n F dL_law_1970 rfl ?_
  refine l_callI (As := []) F hEx mv_L_220 (f_X12_size_ok h2) rfl rfl ok_28 ⟨Nat.le_of_ble_eq_true rfl, Nat.le_of_ble_eq_true rfl⟩ (Nat.le_of_ble_eq_true rfl) hcs dL_law_1971 ?_
  refine l_icmp_eq F 1992 dL_law_1974 rfl (fun _ => ?_) (fun q => absurd he q)
  exact kk _ hI2
theorem case_48 (X : LX p s m meth c w A b Ls xs) (hEx : gKeep w Ex) (hi : i + 6 ≤ Ls) (hcs : ce ≤ room_1.cells ∧ sl ≤ room_1.slots) (hs : SS0 Inv f_X11_trouble f_X12_trouble) (hI : Inv σ) (kk : ∀ σ', Inv σ' → GL p l e room_1 s m #[Value.ref b] below meth c 7 w A Q Ex 1992 [some (.ref b), some (.ref (w.2.1 0 0)), some (.ref (w.2.1 28 0)), some (.ref qo), some (.int (nI i)), x5, x6] [] σ' ce sl) : GL p l e room_1 s m #[Value.ref b] below meth c 7 w A Q Ex 1979 [some (.ref b), some (.ref (w.2.1 0 0)), some (.ref (w.2.1 28 0)), some (.ref qo), some (.int (nI i)), x5, x6] [] σ ce sl := by
  obtain ⟨F, hX, hbl, hbA, hL⟩ := X
  obtain ⟨r1, r2, h1, h2, he, hI2⟩ := hs  σ hI
  refine l_aload_n F dL_law_1979 rfl ?_
  refine l_callI (As := []) F hEx mv_L_221 (f_X11_trouble_ok h1) rfl rfl ok_0 ⟨Nat.le_of_ble_eq_true rfl, Nat.le_of_ble_eq_true rfl⟩ (Nat.le_of_ble_eq_true rfl) hcs dL_law_1980 ?_
  refine l_aload_n F dL_law_1983 rfl ?_
  refine l_callI (As := []) F hEx mv_L_224 (f_X12_trouble_ok h2) rfl rfl ok_28 ⟨Nat.le_of_ble_eq_true rfl, Nat.le_of_ble_eq_true rfl⟩ (Nat.le_of_ble_eq_true rfl) hcs dL_law_1984 ?_
  refine l_icmp_eq F 1992 dL_law_1987 rfl (fun _ => ?_) (fun q => absurd he q)
  exact kk _ hI2
end LC
