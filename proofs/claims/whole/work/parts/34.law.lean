set_option maxRecDepth 100000 in
set_option maxHeartbeats 4000000 in
theorem law_0 {Inv : tr_M → tr_M → Prop} (hs : sm_row Inv) {b L B : Nat} {xs : Nat → Int32} {Wt : tr_GT} {i : Nat} {M1 M2 : tr_M} (hI : Inv M1 M2) (hi : i + 6 ≤ L) (hL : L ≤ 3072) (ih : ∀ N1 N2, Inv N1 N2 → tr_G b L xs B Wt 1704 [(3, .int (nI i)), (0, .ref b), (1, .ref (B + 1)), (2, .ref (B + 81 + 1))] [] N1 N2) : tr_G b L xs B Wt 244 [(3, .int (nI i)), (0, .ref b), (1, .ref (B + 1)), (2, .ref (B + 81 + 1))] [] M1 M2 := by
  obtain ⟨r, N1, N2, h1, h2, hI2⟩ := hs M1 M2 (xs (i + 1)) (xs (i + 2)) hI
  refine tr_G.aload_n (i := 1) dL_law_244 2 rfl rfl ?_
  refine tr_G.aload_n (i := 0) dL_law_245 1 rfl rfl ?_
  refine tr_G.iload_n (i := 3) dL_law_246 0 rfl rfl ?_
  refine tr_G.iconst (v := (1 : Int32)) dL_law_247 (by decide) ?_
  refine tr_G.iadd dL_law_248 ?_
  refine tr_G.sld (j := i + 1) dL_law_249 (nI_add i 1) (by omega) (by omega) ?_
  refine tr_G.aload_n (i := 0) dL_law_250 1 rfl rfl ?_
  refine tr_G.iload_n (i := 3) dL_law_251 0 rfl rfl ?_
  refine tr_G.iconst (v := (2 : Int32)) dL_law_252 (by decide) ?_
  refine tr_G.iadd dL_law_253 ?_
  refine tr_G.sld (j := i + 2) dL_law_254 (nI_add i 2) (by omega) (by omega) ?_
  refine tr_G.callX (CW_X6_row (xs (i + 1)) (xs (i + 2)) M1 _ h1) yk_X6_row iv_X6_row ml_L_13 rfl shC_1 ⟨rfl, Nat.le_of_ble_eq_true rfl⟩ rfl (fun _ => rfl) (fun _ => rfl) (Nat.le_of_ble_eq_true rfl) rfl dL_law_255 ?_
  refine tr_G.aload_n (i := 2) dL_law_258 3 rfl rfl ?_
  refine tr_G.aload_n (i := 0) dL_law_259 1 rfl rfl ?_
  refine tr_G.iload_n (i := 3) dL_law_260 0 rfl rfl ?_
  refine tr_G.iconst (v := (1 : Int32)) dL_law_261 (by decide) ?_
  refine tr_G.iadd dL_law_262 ?_
  refine tr_G.sld (j := i + 1) dL_law_263 (nI_add i 1) (by omega) (by omega) ?_
  refine tr_G.aload_n (i := 0) dL_law_264 1 rfl rfl ?_
  refine tr_G.iload_n (i := 3) dL_law_265 0 rfl rfl ?_
  refine tr_G.iconst (v := (2 : Int32)) dL_law_266 (by decide) ?_
  refine tr_G.iadd dL_law_267 ?_
  refine tr_G.sld (j := i + 2) dL_law_268 (nI_add i 2) (by omega) (by omega) ?_
  refine tr_G.callM (CW_X7_row (xs (i + 1)) (xs (i + 2)) M2 _ h2) yk_X7_row iv_X7_row ml_L_17 rfl shM_1 ⟨rfl, Nat.le_of_ble_eq_true rfl⟩ rfl (fun _ => rfl) (fun _ => rfl) (Nat.le_of_ble_eq_true rfl) rfl dL_law_269 ?_
  refine tr_G.icmp_eq (tgt := 1704) dL_law_272 (by decide) ?_
  exact ih _ _ hI2
set_option maxRecDepth 100000 in
set_option maxHeartbeats 4000000 in
theorem law_1 {Inv : tr_M → tr_M → Prop} (hs : sm_lay Inv) {b L B : Nat} {xs : Nat → Int32} {Wt : tr_GT} {i : Nat} {M1 M2 : tr_M} (hI : Inv M1 M2) (hi : i + 6 ≤ L) (hL : L ≤ 3072) (ih : ∀ N1 N2, Inv N1 N2 → tr_G b L xs B Wt 1704 [(3, .int (nI i)), (0, .ref b), (1, .ref (B + 1)), (2, .ref (B + 81 + 1))] [] N1 N2) : tr_G b L xs B Wt 277 [(3, .int (nI i)), (0, .ref b), (1, .ref (B + 1)), (2, .ref (B + 81 + 1))] [] M1 M2 := by
  obtain ⟨r, N1, N2, h1, h2, hI2⟩ := hs M1 M2 (xs (i + 1)) (xs (i + 2)) (xs (i + 3)) hI
  refine tr_G.aload_n (i := 1) dL_law_277 2 rfl rfl ?_
  refine tr_G.aload_n (i := 0) dL_law_278 1 rfl rfl ?_
  refine tr_G.iload_n (i := 3) dL_law_279 0 rfl rfl ?_
  refine tr_G.iconst (v := (1 : Int32)) dL_law_280 (by decide) ?_
  refine tr_G.iadd dL_law_281 ?_
  refine tr_G.sld (j := i + 1) dL_law_282 (nI_add i 1) (by omega) (by omega) ?_
  refine tr_G.aload_n (i := 0) dL_law_283 1 rfl rfl ?_
  refine tr_G.iload_n (i := 3) dL_law_284 0 rfl rfl ?_
  refine tr_G.iconst (v := (2 : Int32)) dL_law_285 (by decide) ?_
  refine tr_G.iadd dL_law_286 ?_
  refine tr_G.sld (j := i + 2) dL_law_287 (nI_add i 2) (by omega) (by omega) ?_
  refine tr_G.aload_n (i := 0) dL_law_288 1 rfl rfl ?_
  refine tr_G.iload_n (i := 3) dL_law_289 0 rfl rfl ?_
  refine tr_G.iconst (v := (3 : Int32)) dL_law_290 (by decide) ?_
  refine tr_G.iadd dL_law_291 ?_
  refine tr_G.sld (j := i + 3) dL_law_292 (nI_add i 3) (by omega) (by omega) ?_
  refine tr_G.callX (CW_X6_lay (xs (i + 1)) (xs (i + 2)) (xs (i + 3)) M1 _ h1) yk_X6_lay iv_X6_lay ml_L_18 rfl shC_1 ⟨rfl, Nat.le_of_ble_eq_true rfl⟩ rfl (fun _ => rfl) (fun _ => rfl) (Nat.le_of_ble_eq_true rfl) rfl dL_law_293 ?_
  refine tr_G.aload_n (i := 2) dL_law_296 3 rfl rfl ?_
  refine tr_G.aload_n (i := 0) dL_law_297 1 rfl rfl ?_
  refine tr_G.iload_n (i := 3) dL_law_298 0 rfl rfl ?_
  refine tr_G.iconst (v := (1 : Int32)) dL_law_299 (by decide) ?_
  refine tr_G.iadd dL_law_300 ?_
  refine tr_G.sld (j := i + 1) dL_law_301 (nI_add i 1) (by omega) (by omega) ?_
  refine tr_G.aload_n (i := 0) dL_law_302 1 rfl rfl ?_
  refine tr_G.iload_n (i := 3) dL_law_303 0 rfl rfl ?_
  refine tr_G.iconst (v := (2 : Int32)) dL_law_304 (by decide) ?_
  refine tr_G.iadd dL_law_305 ?_
  refine tr_G.sld (j := i + 2) dL_law_306 (nI_add i 2) (by omega) (by omega) ?_
  refine tr_G.aload_n (i := 0) dL_law_307 1 rfl rfl ?_
  refine tr_G.iload_n (i := 3) dL_law_308 0 rfl rfl ?_
  refine tr_G.iconst (v := (3 : Int32)) dL_law_309 (by decide) ?_
  refine tr_G.iadd dL_law_310 ?_
  refine tr_G.sld (j := i + 3) dL_law_311 (nI_add i 3) (by omega) (by omega) ?_
  refine tr_G.callM (CW_X7_lay (xs (i + 1)) (xs (i + 2)) (xs (i + 3)) M2 _ h2) yk_X7_lay iv_X7_lay ml_L_22 rfl shM_1 ⟨rfl, Nat.le_of_ble_eq_true rfl⟩ rfl (fun _ => rfl) (fun _ => rfl) (Nat.le_of_ble_eq_true rfl) rfl dL_law_312 ?_
  refine tr_G.icmp_eq (tgt := 1704) dL_law_315 (by decide) ?_
  exact ih _ _ hI2
set_option maxRecDepth 100000 in
set_option maxHeartbeats 4000000 in
theorem law_2 {Inv : tr_M → tr_M → Prop} (hs : sm_at Inv) {b L B : Nat} {xs : Nat → Int32} {Wt : tr_GT} {i : Nat} {M1 M2 : tr_M} (hI : Inv M1 M2) (hi : i + 6 ≤ L) (hL : L ≤ 3072) (ih : ∀ N1 N2, Inv N1 N2 → tr_G b L xs B Wt 1704 [(3, .int (nI i)), (0, .ref b), (1, .ref (B + 1)), (2, .ref (B + 81 + 1))] [] N1 N2) : tr_G b L xs B Wt 320 [(3, .int (nI i)), (0, .ref b), (1, .ref (B + 1)), (2, .ref (B + 81 + 1))] [] M1 M2 := by
  obtain ⟨r, N1, N2, h1, h2, hI2⟩ := hs M1 M2 (xs (i + 1)) (xs (i + 2)) hI
  refine tr_G.aload_n (i := 1) dL_law_320 2 rfl rfl ?_
  refine tr_G.aload_n (i := 0) dL_law_321 1 rfl rfl ?_
  refine tr_G.iload_n (i := 3) dL_law_322 0 rfl rfl ?_
  refine tr_G.iconst (v := (1 : Int32)) dL_law_323 (by decide) ?_
  refine tr_G.iadd dL_law_324 ?_
  refine tr_G.sld (j := i + 1) dL_law_325 (nI_add i 1) (by omega) (by omega) ?_
  refine tr_G.aload_n (i := 0) dL_law_326 1 rfl rfl ?_
  refine tr_G.iload_n (i := 3) dL_law_327 0 rfl rfl ?_
  refine tr_G.iconst (v := (2 : Int32)) dL_law_328 (by decide) ?_
  refine tr_G.iadd dL_law_329 ?_
  refine tr_G.sld (j := i + 2) dL_law_330 (nI_add i 2) (by omega) (by omega) ?_
  refine tr_G.callX (CW_X6_at (xs (i + 1)) (xs (i + 2)) M1 _ h1) yk_X6_at iv_X6_at ml_L_23 rfl shC_1 ⟨rfl, Nat.le_of_ble_eq_true rfl⟩ rfl (fun _ => rfl) (fun _ => rfl) (Nat.le_of_ble_eq_true rfl) rfl dL_law_331 ?_
  refine tr_G.aload_n (i := 2) dL_law_334 3 rfl rfl ?_
  refine tr_G.aload_n (i := 0) dL_law_335 1 rfl rfl ?_
  refine tr_G.iload_n (i := 3) dL_law_336 0 rfl rfl ?_
  refine tr_G.iconst (v := (1 : Int32)) dL_law_337 (by decide) ?_
  refine tr_G.iadd dL_law_338 ?_
  refine tr_G.sld (j := i + 1) dL_law_339 (nI_add i 1) (by omega) (by omega) ?_
  refine tr_G.aload_n (i := 0) dL_law_340 1 rfl rfl ?_
  refine tr_G.iload_n (i := 3) dL_law_341 0 rfl rfl ?_
  refine tr_G.iconst (v := (2 : Int32)) dL_law_342 (by decide) ?_
  refine tr_G.iadd dL_law_343 ?_
  refine tr_G.sld (j := i + 2) dL_law_344 (nI_add i 2) (by omega) (by omega) ?_
  refine tr_G.callM (CW_X7_at (xs (i + 1)) (xs (i + 2)) M2 _ h2) yk_X7_at iv_X7_at ml_L_26 rfl shM_1 ⟨rfl, Nat.le_of_ble_eq_true rfl⟩ rfl (fun _ => rfl) (fun _ => rfl) (Nat.le_of_ble_eq_true rfl) rfl dL_law_345 ?_
  refine tr_G.icmp_eq (tgt := 1704) dL_law_348 (by decide) ?_
  exact ih _ _ hI2
set_option maxRecDepth 100000 in
set_option maxHeartbeats 4000000 in
theorem law_3 {Inv : tr_M → tr_M → Prop} (hs : sm_tear Inv) {b L B : Nat} {xs : Nat → Int32} {Wt : tr_GT} {i : Nat} {M1 M2 : tr_M} (hI : Inv M1 M2) (hi : i + 6 ≤ L) (hL : L ≤ 3072) (ih : ∀ N1 N2, Inv N1 N2 → tr_G b L xs B Wt 1704 [(3, .int (nI i)), (0, .ref b), (1, .ref (B + 1)), (2, .ref (B + 81 + 1))] [] N1 N2) : tr_G b L xs B Wt 353 [(3, .int (nI i)), (0, .ref b), (1, .ref (B + 1)), (2, .ref (B + 81 + 1))] [] M1 M2 := by
  obtain ⟨r, N1, N2, h1, h2, hI2⟩ := hs M1 M2 (xs (i + 1)) hI
  refine tr_G.aload_n (i := 1) dL_law_353 2 rfl rfl ?_
  refine tr_G.aload_n (i := 0) dL_law_354 1 rfl rfl ?_
  refine tr_G.iload_n (i := 3) dL_law_355 0 rfl rfl ?_
  refine tr_G.iconst (v := (1 : Int32)) dL_law_356 (by decide) ?_
  refine tr_G.iadd dL_law_357 ?_
  refine tr_G.sld (j := i + 1) dL_law_358 (nI_add i 1) (by omega) (by omega) ?_
  refine tr_G.callX (CW_X6_tear (xs (i + 1)) M1 _ h1) yk_X6_tear iv_X6_tear ml_L_27 rfl shC_1 ⟨rfl, Nat.le_of_ble_eq_true rfl⟩ rfl (fun _ => rfl) (fun _ => rfl) (Nat.le_of_ble_eq_true rfl) rfl dL_law_359 ?_
  refine tr_G.aload_n (i := 2) dL_law_362 3 rfl rfl ?_
  refine tr_G.aload_n (i := 0) dL_law_363 1 rfl rfl ?_
  refine tr_G.iload_n (i := 3) dL_law_364 0 rfl rfl ?_
  refine tr_G.iconst (v := (1 : Int32)) dL_law_365 (by decide) ?_
  refine tr_G.iadd dL_law_366 ?_
  refine tr_G.sld (j := i + 1) dL_law_367 (nI_add i 1) (by omega) (by omega) ?_
  refine tr_G.callM (CW_X7_tear (xs (i + 1)) M2 _ h2) yk_X7_tear iv_X7_tear ml_L_31 rfl shM_1 ⟨rfl, Nat.le_of_ble_eq_true rfl⟩ rfl (fun _ => rfl) (fun _ => rfl) (Nat.le_of_ble_eq_true rfl) rfl dL_law_368 ?_
  refine tr_G.icmp_eq (tgt := 1704) dL_law_371 (by decide) ?_
  exact ih _ _ hI2
set_option maxRecDepth 100000 in
set_option maxHeartbeats 4000000 in
theorem law_4 {Inv : tr_M → tr_M → Prop} (hs : sm_copy Inv) {b L B : Nat} {xs : Nat → Int32} {Wt : tr_GT} {i : Nat} {M1 M2 : tr_M} (hI : Inv M1 M2) (hi : i + 6 ≤ L) (hL : L ≤ 3072) (ih : ∀ N1 N2, Inv N1 N2 → tr_G b L xs B Wt 1704 [(3, .int (nI i)), (0, .ref b), (1, .ref (B + 1)), (2, .ref (B + 81 + 1))] [] N1 N2) : tr_G b L xs B Wt 376 [(3, .int (nI i)), (0, .ref b), (1, .ref (B + 1)), (2, .ref (B + 81 + 1))] [] M1 M2 := by
  obtain ⟨r, N1, N2, h1, h2, hI2⟩ := hs M1 M2 (xs (i + 1)) (xs (i + 2)) (xs (i + 3)) (xs (i + 4)) (xs (i + 5)) hI
  refine tr_G.aload_n (i := 1) dL_law_376 2 rfl rfl ?_
  refine tr_G.aload_n (i := 0) dL_law_377 1 rfl rfl ?_
  refine tr_G.iload_n (i := 3) dL_law_378 0 rfl rfl ?_
  refine tr_G.iconst (v := (1 : Int32)) dL_law_379 (by decide) ?_
  refine tr_G.iadd dL_law_380 ?_
  refine tr_G.sld (j := i + 1) dL_law_381 (nI_add i 1) (by omega) (by omega) ?_
  refine tr_G.aload_n (i := 0) dL_law_382 1 rfl rfl ?_
  refine tr_G.iload_n (i := 3) dL_law_383 0 rfl rfl ?_
  refine tr_G.iconst (v := (2 : Int32)) dL_law_384 (by decide) ?_
  refine tr_G.iadd dL_law_385 ?_
  refine tr_G.sld (j := i + 2) dL_law_386 (nI_add i 2) (by omega) (by omega) ?_
  refine tr_G.aload_n (i := 0) dL_law_387 1 rfl rfl ?_
  refine tr_G.iload_n (i := 3) dL_law_388 0 rfl rfl ?_
  refine tr_G.iconst (v := (3 : Int32)) dL_law_389 (by decide) ?_
  refine tr_G.iadd dL_law_390 ?_
  refine tr_G.sld (j := i + 3) dL_law_391 (nI_add i 3) (by omega) (by omega) ?_
  refine tr_G.aload_n (i := 0) dL_law_392 1 rfl rfl ?_
  refine tr_G.iload_n (i := 3) dL_law_393 0 rfl rfl ?_
  refine tr_G.iconst (v := (4 : Int32)) dL_law_394 (by decide) ?_
  refine tr_G.iadd dL_law_395 ?_
  refine tr_G.sld (j := i + 4) dL_law_396 (nI_add i 4) (by omega) (by omega) ?_
  refine tr_G.aload_n (i := 0) dL_law_397 1 rfl rfl ?_
  refine tr_G.iload_n (i := 3) dL_law_398 0 rfl rfl ?_
  refine tr_G.iconst (v := (5 : Int32)) dL_law_399 (by decide) ?_
  refine tr_G.iadd dL_law_400 ?_
  refine tr_G.sld (j := i + 5) dL_law_401 (nI_add i 5) (by omega) (by omega) ?_
  refine tr_G.callX (CW_X6_copy (xs (i + 1)) (xs (i + 2)) (xs (i + 3)) (xs (i + 4)) (xs (i + 5)) M1 _ h1) yk_X6_copy iv_X6_copy ml_L_32 rfl shC_1 ⟨rfl, Nat.le_of_ble_eq_true rfl⟩ rfl (fun _ => rfl) (fun _ => rfl) (Nat.le_of_ble_eq_true rfl) rfl dL_law_402 ?_
  refine tr_G.aload_n (i := 2) dL_law_405 3 rfl rfl ?_
  refine tr_G.aload_n (i := 0) dL_law_406 1 rfl rfl ?_
  refine tr_G.iload_n (i := 3) dL_law_407 0 rfl rfl ?_
  refine tr_G.iconst (v := (1 : Int32)) dL_law_408 (by decide) ?_
  refine tr_G.iadd dL_law_409 ?_
  refine tr_G.sld (j := i + 1) dL_law_410 (nI_add i 1) (by omega) (by omega) ?_
  refine tr_G.aload_n (i := 0) dL_law_411 1 rfl rfl ?_
  refine tr_G.iload_n (i := 3) dL_law_412 0 rfl rfl ?_
  refine tr_G.iconst (v := (2 : Int32)) dL_law_413 (by decide) ?_
  refine tr_G.iadd dL_law_414 ?_
  refine tr_G.sld (j := i + 2) dL_law_415 (nI_add i 2) (by omega) (by omega) ?_
  refine tr_G.aload_n (i := 0) dL_law_416 1 rfl rfl ?_
  refine tr_G.iload_n (i := 3) dL_law_417 0 rfl rfl ?_
  refine tr_G.iconst (v := (3 : Int32)) dL_law_418 (by decide) ?_
  refine tr_G.iadd dL_law_419 ?_
  refine tr_G.sld (j := i + 3) dL_law_420 (nI_add i 3) (by omega) (by omega) ?_
  refine tr_G.aload_n (i := 0) dL_law_421 1 rfl rfl ?_
  refine tr_G.iload_n (i := 3) dL_law_422 0 rfl rfl ?_
  refine tr_G.iconst (v := (4 : Int32)) dL_law_423 (by decide) ?_
  refine tr_G.iadd dL_law_424 ?_
  refine tr_G.sld (j := i + 4) dL_law_425 (nI_add i 4) (by omega) (by omega) ?_
  refine tr_G.aload_n (i := 0) dL_law_426 1 rfl rfl ?_
  refine tr_G.iload_n (i := 3) dL_law_427 0 rfl rfl ?_
  refine tr_G.iconst (v := (5 : Int32)) dL_law_428 (by decide) ?_
  refine tr_G.iadd dL_law_429 ?_
  refine tr_G.sld (j := i + 5) dL_law_430 (nI_add i 5) (by omega) (by omega) ?_
  refine tr_G.callM (CW_X7_copy (xs (i + 1)) (xs (i + 2)) (xs (i + 3)) (xs (i + 4)) (xs (i + 5)) M2 _ h2) yk_X7_copy iv_X7_copy ml_L_36 rfl shM_1 ⟨rfl, Nat.le_of_ble_eq_true rfl⟩ rfl (fun _ => rfl) (fun _ => rfl) (Nat.le_of_ble_eq_true rfl) rfl dL_law_431 ?_
  refine tr_G.icmp_eq (tgt := 1704) dL_law_434 (by decide) ?_
  exact ih _ _ hI2
set_option maxRecDepth 100000 in
set_option maxHeartbeats 4000000 in
theorem law_5 {Inv : tr_M → tr_M → Prop} (hs : sm_mean Inv) {b L B : Nat} {xs : Nat → Int32} {Wt : tr_GT} {i : Nat} {M1 M2 : tr_M} (hI : Inv M1 M2) (hi : i + 6 ≤ L) (hL : L ≤ 3072) (ih : ∀ N1 N2, Inv N1 N2 → tr_G b L xs B Wt 1704 [(3, .int (nI i)), (0, .ref b), (1, .ref (B + 1)), (2, .ref (B + 81 + 1))] [] N1 N2) : tr_G b L xs B Wt 439 [(3, .int (nI i)), (0, .ref b), (1, .ref (B + 1)), (2, .ref (B + 81 + 1))] [] M1 M2 := by
  obtain ⟨r, N1, N2, h1, h2, hI2⟩ := hs M1 M2 (xs (i + 1)) hI
  refine tr_G.aload_n (i := 1) dL_law_439 2 rfl rfl ?_
  refine tr_G.aload_n (i := 0) dL_law_440 1 rfl rfl ?_
  refine tr_G.iload_n (i := 3) dL_law_441 0 rfl rfl ?_
  refine tr_G.iconst (v := (1 : Int32)) dL_law_442 (by decide) ?_
  refine tr_G.iadd dL_law_443 ?_
  refine tr_G.sld (j := i + 1) dL_law_444 (nI_add i 1) (by omega) (by omega) ?_
  refine tr_G.callX (CW_X6_mean (xs (i + 1)) M1 _ h1) yk_X6_mean iv_X6_mean ml_L_37 rfl shC_1 ⟨rfl, Nat.le_of_ble_eq_true rfl⟩ rfl (fun _ => rfl) (fun _ => rfl) (Nat.le_of_ble_eq_true rfl) rfl dL_law_445 ?_
  refine tr_G.aload_n (i := 2) dL_law_448 3 rfl rfl ?_
  refine tr_G.aload_n (i := 0) dL_law_449 1 rfl rfl ?_
  refine tr_G.iload_n (i := 3) dL_law_450 0 rfl rfl ?_
  refine tr_G.iconst (v := (1 : Int32)) dL_law_451 (by decide) ?_
  refine tr_G.iadd dL_law_452 ?_
  refine tr_G.sld (j := i + 1) dL_law_453 (nI_add i 1) (by omega) (by omega) ?_
  refine tr_G.callM (CW_X7_mean (xs (i + 1)) M2 _ h2) yk_X7_mean iv_X7_mean ml_L_40 rfl shM_1 ⟨rfl, Nat.le_of_ble_eq_true rfl⟩ rfl (fun _ => rfl) (fun _ => rfl) (Nat.le_of_ble_eq_true rfl) rfl dL_law_454 ?_
  refine tr_G.icmp_eq (tgt := 1704) dL_law_457 (by decide) ?_
  exact ih _ _ hI2
set_option maxRecDepth 100000 in
set_option maxHeartbeats 4000000 in
theorem law_6 {Inv : tr_M → tr_M → Prop} (hs : sm_text Inv) {b L B : Nat} {xs : Nat → Int32} {Wt : tr_GT} {i : Nat} {M1 M2 : tr_M} (hI : Inv M1 M2) (hi : i + 6 ≤ L) (hL : L ≤ 3072) (ih : ∀ N1 N2, Inv N1 N2 → tr_G b L xs B Wt 1704 [(3, .int (nI i)), (0, .ref b), (1, .ref (B + 1)), (2, .ref (B + 81 + 1))] [] N1 N2) : tr_G b L xs B Wt 462 [(3, .int (nI i)), (0, .ref b), (1, .ref (B + 1)), (2, .ref (B + 81 + 1))] [] M1 M2 := by
  obtain ⟨r, N1, N2, h1, h2, hI2⟩ := hs M1 M2 (xs (i + 1)) (xs (i + 2)) hI
  refine tr_G.aload_n (i := 1) dL_law_462 2 rfl rfl ?_
  refine tr_G.aload_n (i := 0) dL_law_463 1 rfl rfl ?_
  refine tr_G.iload_n (i := 3) dL_law_464 0 rfl rfl ?_
  refine tr_G.iconst (v := (1 : Int32)) dL_law_465 (by decide) ?_
  refine tr_G.iadd dL_law_466 ?_
  refine tr_G.sld (j := i + 1) dL_law_467 (nI_add i 1) (by omega) (by omega) ?_
  refine tr_G.aload_n (i := 0) dL_law_468 1 rfl rfl ?_
  refine tr_G.iload_n (i := 3) dL_law_469 0 rfl rfl ?_
  refine tr_G.iconst (v := (2 : Int32)) dL_law_470 (by decide) ?_
  refine tr_G.iadd dL_law_471 ?_
  refine tr_G.sld (j := i + 2) dL_law_472 (nI_add i 2) (by omega) (by omega) ?_
  refine tr_G.callX (CW_X6_text (xs (i + 1)) (xs (i + 2)) M1 _ h1) yk_X6_text iv_X6_text ml_L_41 rfl shC_1 ⟨rfl, Nat.le_of_ble_eq_true rfl⟩ rfl (fun _ => rfl) (fun _ => rfl) (Nat.le_of_ble_eq_true rfl) rfl dL_law_473 ?_
  refine tr_G.aload_n (i := 2) dL_law_476 3 rfl rfl ?_
  refine tr_G.aload_n (i := 0) dL_law_477 1 rfl rfl ?_
  refine tr_G.iload_n (i := 3) dL_law_478 0 rfl rfl ?_
  refine tr_G.iconst (v := (1 : Int32)) dL_law_479 (by decide) ?_
  refine tr_G.iadd dL_law_480 ?_
  refine tr_G.sld (j := i + 1) dL_law_481 (nI_add i 1) (by omega) (by omega) ?_
  refine tr_G.aload_n (i := 0) dL_law_482 1 rfl rfl ?_
  refine tr_G.iload_n (i := 3) dL_law_483 0 rfl rfl ?_
  refine tr_G.iconst (v := (2 : Int32)) dL_law_484 (by decide) ?_
  refine tr_G.iadd dL_law_485 ?_
  refine tr_G.sld (j := i + 2) dL_law_486 (nI_add i 2) (by omega) (by omega) ?_
  refine tr_G.callM (CW_X7_text (xs (i + 1)) (xs (i + 2)) M2 _ h2) yk_X7_text iv_X7_text ml_L_44 rfl shM_1 ⟨rfl, Nat.le_of_ble_eq_true rfl⟩ rfl (fun _ => rfl) (fun _ => rfl) (Nat.le_of_ble_eq_true rfl) rfl dL_law_487 ?_
  refine tr_G.icmp_eq (tgt := 1704) dL_law_490 (by decide) ?_
  exact ih _ _ hI2
set_option maxRecDepth 100000 in
set_option maxHeartbeats 4000000 in
theorem law_7 {Inv : tr_M → tr_M → Prop} (hs : sm_put Inv) {b L B : Nat} {xs : Nat → Int32} {Wt : tr_GT} {i : Nat} {M1 M2 : tr_M} (hI : Inv M1 M2) (hi : i + 6 ≤ L) (hL : L ≤ 3072) (ih : ∀ N1 N2, Inv N1 N2 → tr_G b L xs B Wt 1704 [(3, .int (nI i)), (0, .ref b), (1, .ref (B + 1)), (2, .ref (B + 81 + 1))] [] N1 N2) : tr_G b L xs B Wt 495 [(3, .int (nI i)), (0, .ref b), (1, .ref (B + 1)), (2, .ref (B + 81 + 1))] [] M1 M2 := by
  obtain ⟨r, N1, N2, h1, h2, hI2⟩ := hs M1 M2 (xs (i + 1)) (xs (i + 2)) (xs (i + 3)) hI
  refine tr_G.aload_n (i := 1) dL_law_495 2 rfl rfl ?_
  refine tr_G.aload_n (i := 0) dL_law_496 1 rfl rfl ?_
  refine tr_G.iload_n (i := 3) dL_law_497 0 rfl rfl ?_
  refine tr_G.iconst (v := (1 : Int32)) dL_law_498 (by decide) ?_
  refine tr_G.iadd dL_law_499 ?_
  refine tr_G.sld (j := i + 1) dL_law_500 (nI_add i 1) (by omega) (by omega) ?_
  refine tr_G.aload_n (i := 0) dL_law_501 1 rfl rfl ?_
  refine tr_G.iload_n (i := 3) dL_law_502 0 rfl rfl ?_
  refine tr_G.iconst (v := (2 : Int32)) dL_law_503 (by decide) ?_
  refine tr_G.iadd dL_law_504 ?_
  refine tr_G.sld (j := i + 2) dL_law_505 (nI_add i 2) (by omega) (by omega) ?_
  refine tr_G.aload_n (i := 0) dL_law_506 1 rfl rfl ?_
  refine tr_G.iload_n (i := 3) dL_law_507 0 rfl rfl ?_
  refine tr_G.iconst (v := (3 : Int32)) dL_law_508 (by decide) ?_
  refine tr_G.iadd dL_law_509 ?_
  refine tr_G.sld (j := i + 3) dL_law_510 (nI_add i 3) (by omega) (by omega) ?_
  refine tr_G.callX (CW_X6_put (xs (i + 1)) (xs (i + 2)) (xs (i + 3)) M1 _ h1) yk_X6_put iv_X6_put ml_L_45 rfl shC_1 ⟨rfl, Nat.le_of_ble_eq_true rfl⟩ rfl (fun _ => rfl) (fun _ => rfl) (Nat.le_of_ble_eq_true rfl) rfl dL_law_511 ?_
  refine tr_G.aload_n (i := 2) dL_law_514 3 rfl rfl ?_
  refine tr_G.aload_n (i := 0) dL_law_515 1 rfl rfl ?_
  refine tr_G.iload_n (i := 3) dL_law_516 0 rfl rfl ?_
  refine tr_G.iconst (v := (1 : Int32)) dL_law_517 (by decide) ?_
  refine tr_G.iadd dL_law_518 ?_
  refine tr_G.sld (j := i + 1) dL_law_519 (nI_add i 1) (by omega) (by omega) ?_
  refine tr_G.aload_n (i := 0) dL_law_520 1 rfl rfl ?_
  refine tr_G.iload_n (i := 3) dL_law_521 0 rfl rfl ?_
  refine tr_G.iconst (v := (2 : Int32)) dL_law_522 (by decide) ?_
  refine tr_G.iadd dL_law_523 ?_
  refine tr_G.sld (j := i + 2) dL_law_524 (nI_add i 2) (by omega) (by omega) ?_
  refine tr_G.aload_n (i := 0) dL_law_525 1 rfl rfl ?_
  refine tr_G.iload_n (i := 3) dL_law_526 0 rfl rfl ?_
  refine tr_G.iconst (v := (3 : Int32)) dL_law_527 (by decide) ?_
  refine tr_G.iadd dL_law_528 ?_
  refine tr_G.sld (j := i + 3) dL_law_529 (nI_add i 3) (by omega) (by omega) ?_
  refine tr_G.callM (CW_X7_put (xs (i + 1)) (xs (i + 2)) (xs (i + 3)) M2 _ h2) yk_X7_put iv_X7_put ml_L_48 rfl shM_1 ⟨rfl, Nat.le_of_ble_eq_true rfl⟩ rfl (fun _ => rfl) (fun _ => rfl) (Nat.le_of_ble_eq_true rfl) rfl dL_law_530 ?_
  refine tr_G.icmp_eq (tgt := 1704) dL_law_533 (by decide) ?_
  exact ih _ _ hI2
set_option maxRecDepth 100000 in
set_option maxHeartbeats 4000000 in
theorem law_8 {Inv : tr_M → tr_M → Prop} (hs : sm_fault Inv) {b L B : Nat} {xs : Nat → Int32} {Wt : tr_GT} {i : Nat} {M1 M2 : tr_M} (hI : Inv M1 M2) (hi : i + 6 ≤ L) (hL : L ≤ 3072) (ih : ∀ N1 N2, Inv N1 N2 → tr_G b L xs B Wt 1704 [(3, .int (nI i)), (0, .ref b), (1, .ref (B + 1)), (2, .ref (B + 81 + 1))] [] N1 N2) : tr_G b L xs B Wt 538 [(3, .int (nI i)), (0, .ref b), (1, .ref (B + 1)), (2, .ref (B + 81 + 1))] [] M1 M2 := by
  obtain ⟨r, N1, N2, h1, h2, hI2⟩ := hs M1 M2 (xs (i + 1)) hI
  refine tr_G.aload_n (i := 1) dL_law_538 2 rfl rfl ?_
  refine tr_G.aload_n (i := 0) dL_law_539 1 rfl rfl ?_
  refine tr_G.iload_n (i := 3) dL_law_540 0 rfl rfl ?_
  refine tr_G.iconst (v := (1 : Int32)) dL_law_541 (by decide) ?_
  refine tr_G.iadd dL_law_542 ?_
  refine tr_G.sld (j := i + 1) dL_law_543 (nI_add i 1) (by omega) (by omega) ?_
  refine tr_G.callX (CW_X6_fault (xs (i + 1)) M1 _ h1) yk_X6_fault iv_X6_fault ml_L_49 rfl shC_1 ⟨rfl, Nat.le_of_ble_eq_true rfl⟩ rfl (fun _ => rfl) (fun _ => rfl) (Nat.le_of_ble_eq_true rfl) rfl dL_law_544 ?_
  refine tr_G.aload_n (i := 2) dL_law_547 3 rfl rfl ?_
  refine tr_G.aload_n (i := 0) dL_law_548 1 rfl rfl ?_
  refine tr_G.iload_n (i := 3) dL_law_549 0 rfl rfl ?_
  refine tr_G.iconst (v := (1 : Int32)) dL_law_550 (by decide) ?_
  refine tr_G.iadd dL_law_551 ?_
  refine tr_G.sld (j := i + 1) dL_law_552 (nI_add i 1) (by omega) (by omega) ?_
  refine tr_G.callM (CW_X7_fault (xs (i + 1)) M2 _ h2) yk_X7_fault iv_X7_fault ml_L_52 rfl shM_1 ⟨rfl, Nat.le_of_ble_eq_true rfl⟩ rfl (fun _ => rfl) (fun _ => rfl) (Nat.le_of_ble_eq_true rfl) rfl dL_law_553 ?_
  refine tr_G.icmp_eq (tgt := 1704) dL_law_556 (by decide) ?_
  exact ih _ _ hI2
set_option maxRecDepth 100000 in
set_option maxHeartbeats 4000000 in
theorem law_9 {Inv : tr_M → tr_M → Prop} (hs : sm_world Inv) {b L B : Nat} {xs : Nat → Int32} {Wt : tr_GT} {i : Nat} {M1 M2 : tr_M} (hI : Inv M1 M2) (hi : i + 6 ≤ L) (hL : L ≤ 3072) (ih : ∀ N1 N2, Inv N1 N2 → tr_G b L xs B Wt 1704 [(3, .int (nI i)), (0, .ref b), (1, .ref (B + 1)), (2, .ref (B + 81 + 1))] [] N1 N2) : tr_G b L xs B Wt 561 [(3, .int (nI i)), (0, .ref b), (1, .ref (B + 1)), (2, .ref (B + 81 + 1))] [] M1 M2 := by
  obtain ⟨r, N1, N2, h1, h2, hI2⟩ := hs M1 M2 (xs (i + 1)) hI
  refine tr_G.aload_n (i := 1) dL_law_561 2 rfl rfl ?_
  refine tr_G.aload_n (i := 0) dL_law_562 1 rfl rfl ?_
  refine tr_G.iload_n (i := 3) dL_law_563 0 rfl rfl ?_
  refine tr_G.iconst (v := (1 : Int32)) dL_law_564 (by decide) ?_
  refine tr_G.iadd dL_law_565 ?_
  refine tr_G.sld (j := i + 1) dL_law_566 (nI_add i 1) (by omega) (by omega) ?_
  refine tr_G.callX (CW_X6_world (xs (i + 1)) M1 _ h1) yk_X6_world iv_X6_world ml_L_53 rfl shC_1 ⟨rfl, Nat.le_of_ble_eq_true rfl⟩ rfl (fun _ => rfl) (fun _ => rfl) (Nat.le_of_ble_eq_true rfl) rfl dL_law_567 ?_
  refine tr_G.aload_n (i := 2) dL_law_570 3 rfl rfl ?_
  refine tr_G.aload_n (i := 0) dL_law_571 1 rfl rfl ?_
  refine tr_G.iload_n (i := 3) dL_law_572 0 rfl rfl ?_
  refine tr_G.iconst (v := (1 : Int32)) dL_law_573 (by decide) ?_
  refine tr_G.iadd dL_law_574 ?_
  refine tr_G.sld (j := i + 1) dL_law_575 (nI_add i 1) (by omega) (by omega) ?_
  refine tr_G.callM (CW_X7_world (xs (i + 1)) M2 _ h2) yk_X7_world iv_X7_world ml_L_56 rfl shM_1 ⟨rfl, Nat.le_of_ble_eq_true rfl⟩ rfl (fun _ => rfl) (fun _ => rfl) (Nat.le_of_ble_eq_true rfl) rfl dL_law_576 ?_
  refine tr_G.icmp_eq (tgt := 1704) dL_law_579 (by decide) ?_
  exact ih _ _ hI2
set_option maxRecDepth 100000 in
set_option maxHeartbeats 4000000 in
theorem law_10 {Inv : tr_M → tr_M → Prop} (hs : sm_tie Inv) {b L B : Nat} {xs : Nat → Int32} {Wt : tr_GT} {i : Nat} {M1 M2 : tr_M} (hI : Inv M1 M2) (hi : i + 6 ≤ L) (hL : L ≤ 3072) (ih : ∀ N1 N2, Inv N1 N2 → tr_G b L xs B Wt 1704 [(3, .int (nI i)), (0, .ref b), (1, .ref (B + 1)), (2, .ref (B + 81 + 1))] [] N1 N2) : tr_G b L xs B Wt 584 [(3, .int (nI i)), (0, .ref b), (1, .ref (B + 1)), (2, .ref (B + 81 + 1))] [] M1 M2 := by
  obtain ⟨r, N1, N2, h1, h2, hI2⟩ := hs M1 M2 (xs (i + 1)) (xs (i + 2)) (xs (i + 3)) hI
  refine tr_G.aload_n (i := 1) dL_law_584 2 rfl rfl ?_
  refine tr_G.aload_n (i := 0) dL_law_585 1 rfl rfl ?_
  refine tr_G.iload_n (i := 3) dL_law_586 0 rfl rfl ?_
  refine tr_G.iconst (v := (1 : Int32)) dL_law_587 (by decide) ?_
  refine tr_G.iadd dL_law_588 ?_
  refine tr_G.sld (j := i + 1) dL_law_589 (nI_add i 1) (by omega) (by omega) ?_
  refine tr_G.aload_n (i := 0) dL_law_590 1 rfl rfl ?_
  refine tr_G.iload_n (i := 3) dL_law_591 0 rfl rfl ?_
  refine tr_G.iconst (v := (2 : Int32)) dL_law_592 (by decide) ?_
  refine tr_G.iadd dL_law_593 ?_
  refine tr_G.sld (j := i + 2) dL_law_594 (nI_add i 2) (by omega) (by omega) ?_
  refine tr_G.aload_n (i := 0) dL_law_595 1 rfl rfl ?_
  refine tr_G.iload_n (i := 3) dL_law_596 0 rfl rfl ?_
  refine tr_G.iconst (v := (3 : Int32)) dL_law_597 (by decide) ?_
  refine tr_G.iadd dL_law_598 ?_
  refine tr_G.sld (j := i + 3) dL_law_599 (nI_add i 3) (by omega) (by omega) ?_
  refine tr_G.callX (CW_X6_tie (xs (i + 1)) (xs (i + 2)) (xs (i + 3)) M1 _ h1) yk_X6_tie iv_X6_tie ml_L_57 rfl shC_1 ⟨rfl, Nat.le_of_ble_eq_true rfl⟩ rfl (fun _ => rfl) (fun _ => rfl) (Nat.le_of_ble_eq_true rfl) rfl dL_law_600 ?_
  refine tr_G.aload_n (i := 2) dL_law_603 3 rfl rfl ?_
  refine tr_G.aload_n (i := 0) dL_law_604 1 rfl rfl ?_
  refine tr_G.iload_n (i := 3) dL_law_605 0 rfl rfl ?_
  refine tr_G.iconst (v := (1 : Int32)) dL_law_606 (by decide) ?_
  refine tr_G.iadd dL_law_607 ?_
  refine tr_G.sld (j := i + 1) dL_law_608 (nI_add i 1) (by omega) (by omega) ?_
  refine tr_G.aload_n (i := 0) dL_law_609 1 rfl rfl ?_
  refine tr_G.iload_n (i := 3) dL_law_610 0 rfl rfl ?_
  refine tr_G.iconst (v := (2 : Int32)) dL_law_611 (by decide) ?_
  refine tr_G.iadd dL_law_612 ?_
  refine tr_G.sld (j := i + 2) dL_law_613 (nI_add i 2) (by omega) (by omega) ?_
  refine tr_G.aload_n (i := 0) dL_law_614 1 rfl rfl ?_
  refine tr_G.iload_n (i := 3) dL_law_615 0 rfl rfl ?_
  refine tr_G.iconst (v := (3 : Int32)) dL_law_616 (by decide) ?_
  refine tr_G.iadd dL_law_617 ?_
  refine tr_G.sld (j := i + 3) dL_law_618 (nI_add i 3) (by omega) (by omega) ?_
  refine tr_G.callM (CW_X7_tie (xs (i + 1)) (xs (i + 2)) (xs (i + 3)) M2 _ h2) yk_X7_tie iv_X7_tie ml_L_60 rfl shM_1 ⟨rfl, Nat.le_of_ble_eq_true rfl⟩ rfl (fun _ => rfl) (fun _ => rfl) (Nat.le_of_ble_eq_true rfl) rfl dL_law_619 ?_
  refine tr_G.icmp_eq (tgt := 1704) dL_law_622 (by decide) ?_
  exact ih _ _ hI2
set_option maxRecDepth 100000 in
set_option maxHeartbeats 4000000 in
theorem law_11 {Inv : tr_M → tr_M → Prop} (hs : sm_rule Inv) {b L B : Nat} {xs : Nat → Int32} {Wt : tr_GT} {i : Nat} {M1 M2 : tr_M} (hI : Inv M1 M2) (hi : i + 6 ≤ L) (hL : L ≤ 3072) (ih : ∀ N1 N2, Inv N1 N2 → tr_G b L xs B Wt 1704 [(3, .int (nI i)), (0, .ref b), (1, .ref (B + 1)), (2, .ref (B + 81 + 1))] [] N1 N2) : tr_G b L xs B Wt 627 [(3, .int (nI i)), (0, .ref b), (1, .ref (B + 1)), (2, .ref (B + 81 + 1))] [] M1 M2 := by
  obtain ⟨r, N1, N2, h1, h2, hI2⟩ := hs M1 M2 (xs (i + 1)) (xs (i + 2)) (xs (i + 3)) (xs (i + 4)) hI
  refine tr_G.aload_n (i := 1) dL_law_627 2 rfl rfl ?_
  refine tr_G.aload_n (i := 0) dL_law_628 1 rfl rfl ?_
  refine tr_G.iload_n (i := 3) dL_law_629 0 rfl rfl ?_
  refine tr_G.iconst (v := (1 : Int32)) dL_law_630 (by decide) ?_
  refine tr_G.iadd dL_law_631 ?_
  refine tr_G.sld (j := i + 1) dL_law_632 (nI_add i 1) (by omega) (by omega) ?_
  refine tr_G.aload_n (i := 0) dL_law_633 1 rfl rfl ?_
  refine tr_G.iload_n (i := 3) dL_law_634 0 rfl rfl ?_
  refine tr_G.iconst (v := (2 : Int32)) dL_law_635 (by decide) ?_
  refine tr_G.iadd dL_law_636 ?_
  refine tr_G.sld (j := i + 2) dL_law_637 (nI_add i 2) (by omega) (by omega) ?_
  refine tr_G.aload_n (i := 0) dL_law_638 1 rfl rfl ?_
  refine tr_G.iload_n (i := 3) dL_law_639 0 rfl rfl ?_
  refine tr_G.iconst (v := (3 : Int32)) dL_law_640 (by decide) ?_
  refine tr_G.iadd dL_law_641 ?_
  refine tr_G.sld (j := i + 3) dL_law_642 (nI_add i 3) (by omega) (by omega) ?_
  refine tr_G.aload_n (i := 0) dL_law_643 1 rfl rfl ?_
  refine tr_G.iload_n (i := 3) dL_law_644 0 rfl rfl ?_
  refine tr_G.iconst (v := (4 : Int32)) dL_law_645 (by decide) ?_
  refine tr_G.iadd dL_law_646 ?_
  refine tr_G.sld (j := i + 4) dL_law_647 (nI_add i 4) (by omega) (by omega) ?_
  refine tr_G.callX (CW_X6_rule (xs (i + 1)) (xs (i + 2)) (xs (i + 3)) (xs (i + 4)) M1 _ h1) yk_X6_rule iv_X6_rule ml_L_61 rfl shC_1 ⟨rfl, Nat.le_of_ble_eq_true rfl⟩ rfl (fun _ => rfl) (fun _ => rfl) (Nat.le_of_ble_eq_true rfl) rfl dL_law_648 ?_
  refine tr_G.aload_n (i := 2) dL_law_651 3 rfl rfl ?_
  refine tr_G.aload_n (i := 0) dL_law_652 1 rfl rfl ?_
  refine tr_G.iload_n (i := 3) dL_law_653 0 rfl rfl ?_
  refine tr_G.iconst (v := (1 : Int32)) dL_law_654 (by decide) ?_
  refine tr_G.iadd dL_law_655 ?_
  refine tr_G.sld (j := i + 1) dL_law_656 (nI_add i 1) (by omega) (by omega) ?_
  refine tr_G.aload_n (i := 0) dL_law_657 1 rfl rfl ?_
  refine tr_G.iload_n (i := 3) dL_law_658 0 rfl rfl ?_
  refine tr_G.iconst (v := (2 : Int32)) dL_law_659 (by decide) ?_
  refine tr_G.iadd dL_law_660 ?_
  refine tr_G.sld (j := i + 2) dL_law_661 (nI_add i 2) (by omega) (by omega) ?_
  refine tr_G.aload_n (i := 0) dL_law_662 1 rfl rfl ?_
  refine tr_G.iload_n (i := 3) dL_law_663 0 rfl rfl ?_
  refine tr_G.iconst (v := (3 : Int32)) dL_law_664 (by decide) ?_
  refine tr_G.iadd dL_law_665 ?_
  refine tr_G.sld (j := i + 3) dL_law_666 (nI_add i 3) (by omega) (by omega) ?_
  refine tr_G.aload_n (i := 0) dL_law_667 1 rfl rfl ?_
  refine tr_G.iload_n (i := 3) dL_law_668 0 rfl rfl ?_
  refine tr_G.iconst (v := (4 : Int32)) dL_law_669 (by decide) ?_
  refine tr_G.iadd dL_law_670 ?_
  refine tr_G.sld (j := i + 4) dL_law_671 (nI_add i 4) (by omega) (by omega) ?_
  refine tr_G.callM (CW_X7_rule (xs (i + 1)) (xs (i + 2)) (xs (i + 3)) (xs (i + 4)) M2 _ h2) yk_X7_rule iv_X7_rule ml_L_65 rfl shM_1 ⟨rfl, Nat.le_of_ble_eq_true rfl⟩ rfl (fun _ => rfl) (fun _ => rfl) (Nat.le_of_ble_eq_true rfl) rfl dL_law_672 ?_
  refine tr_G.icmp_eq (tgt := 1704) dL_law_675 (by decide) ?_
  exact ih _ _ hI2
set_option maxRecDepth 100000 in
set_option maxHeartbeats 4000000 in
theorem law_12 {Inv : tr_M → tr_M → Prop} (hs : sm_off Inv) {b L B : Nat} {xs : Nat → Int32} {Wt : tr_GT} {i : Nat} {M1 M2 : tr_M} (hI : Inv M1 M2) (hi : i + 6 ≤ L) (hL : L ≤ 3072) (ih : ∀ N1 N2, Inv N1 N2 → tr_G b L xs B Wt 1704 [(3, .int (nI i)), (0, .ref b), (1, .ref (B + 1)), (2, .ref (B + 81 + 1))] [] N1 N2) : tr_G b L xs B Wt 680 [(3, .int (nI i)), (0, .ref b), (1, .ref (B + 1)), (2, .ref (B + 81 + 1))] [] M1 M2 := by
  obtain ⟨r, N1, N2, h1, h2, hI2⟩ := hs M1 M2 (xs (i + 1)) (xs (i + 2)) hI
  refine tr_G.aload_n (i := 1) dL_law_680 2 rfl rfl ?_
  refine tr_G.aload_n (i := 0) dL_law_681 1 rfl rfl ?_
  refine tr_G.iload_n (i := 3) dL_law_682 0 rfl rfl ?_
  refine tr_G.iconst (v := (1 : Int32)) dL_law_683 (by decide) ?_
  refine tr_G.iadd dL_law_684 ?_
  refine tr_G.sld (j := i + 1) dL_law_685 (nI_add i 1) (by omega) (by omega) ?_
  refine tr_G.aload_n (i := 0) dL_law_686 1 rfl rfl ?_
  refine tr_G.iload_n (i := 3) dL_law_687 0 rfl rfl ?_
  refine tr_G.iconst (v := (2 : Int32)) dL_law_688 (by decide) ?_
  refine tr_G.iadd dL_law_689 ?_
  refine tr_G.sld (j := i + 2) dL_law_690 (nI_add i 2) (by omega) (by omega) ?_
  refine tr_G.callX (CW_X6_off (xs (i + 1)) (xs (i + 2)) M1 _ h1) yk_X6_off iv_X6_off ml_L_66 rfl shC_1 ⟨rfl, Nat.le_of_ble_eq_true rfl⟩ rfl (fun _ => rfl) (fun _ => rfl) (Nat.le_of_ble_eq_true rfl) rfl dL_law_691 ?_
  refine tr_G.aload_n (i := 2) dL_law_694 3 rfl rfl ?_
  refine tr_G.aload_n (i := 0) dL_law_695 1 rfl rfl ?_
  refine tr_G.iload_n (i := 3) dL_law_696 0 rfl rfl ?_
  refine tr_G.iconst (v := (1 : Int32)) dL_law_697 (by decide) ?_
  refine tr_G.iadd dL_law_698 ?_
  refine tr_G.sld (j := i + 1) dL_law_699 (nI_add i 1) (by omega) (by omega) ?_
  refine tr_G.aload_n (i := 0) dL_law_700 1 rfl rfl ?_
  refine tr_G.iload_n (i := 3) dL_law_701 0 rfl rfl ?_
  refine tr_G.iconst (v := (2 : Int32)) dL_law_702 (by decide) ?_
  refine tr_G.iadd dL_law_703 ?_
  refine tr_G.sld (j := i + 2) dL_law_704 (nI_add i 2) (by omega) (by omega) ?_
  refine tr_G.callM (CW_X7_off (xs (i + 1)) (xs (i + 2)) M2 _ h2) yk_X7_off iv_X7_off ml_L_69 rfl shM_1 ⟨rfl, Nat.le_of_ble_eq_true rfl⟩ rfl (fun _ => rfl) (fun _ => rfl) (Nat.le_of_ble_eq_true rfl) rfl dL_law_705 ?_
  refine tr_G.icmp_eq (tgt := 1704) dL_law_708 (by decide) ?_
  exact ih _ _ hI2
set_option maxRecDepth 100000 in
set_option maxHeartbeats 4000000 in
theorem law_13 {Inv : tr_M → tr_M → Prop} (hs : sm_back Inv) {b L B : Nat} {xs : Nat → Int32} {Wt : tr_GT} {i : Nat} {M1 M2 : tr_M} (hI : Inv M1 M2) (hi : i + 6 ≤ L) (hL : L ≤ 3072) (ih : ∀ N1 N2, Inv N1 N2 → tr_G b L xs B Wt 1704 [(3, .int (nI i)), (0, .ref b), (1, .ref (B + 1)), (2, .ref (B + 81 + 1))] [] N1 N2) : tr_G b L xs B Wt 713 [(3, .int (nI i)), (0, .ref b), (1, .ref (B + 1)), (2, .ref (B + 81 + 1))] [] M1 M2 := by
  obtain ⟨r, N1, N2, h1, h2, hI2⟩ := hs M1 M2 (xs (i + 1)) hI
  refine tr_G.aload_n (i := 1) dL_law_713 2 rfl rfl ?_
  refine tr_G.aload_n (i := 0) dL_law_714 1 rfl rfl ?_
  refine tr_G.iload_n (i := 3) dL_law_715 0 rfl rfl ?_
  refine tr_G.iconst (v := (1 : Int32)) dL_law_716 (by decide) ?_
  refine tr_G.iadd dL_law_717 ?_
  refine tr_G.sld (j := i + 1) dL_law_718 (nI_add i 1) (by omega) (by omega) ?_
  refine tr_G.callX (CW_X6_back (xs (i + 1)) M1 _ h1) yk_X6_back iv_X6_back ml_L_70 rfl shC_1 ⟨rfl, Nat.le_of_ble_eq_true rfl⟩ rfl (fun _ => rfl) (fun _ => rfl) (Nat.le_of_ble_eq_true rfl) rfl dL_law_719 ?_
  refine tr_G.aload_n (i := 2) dL_law_722 3 rfl rfl ?_
  refine tr_G.aload_n (i := 0) dL_law_723 1 rfl rfl ?_
  refine tr_G.iload_n (i := 3) dL_law_724 0 rfl rfl ?_
  refine tr_G.iconst (v := (1 : Int32)) dL_law_725 (by decide) ?_
  refine tr_G.iadd dL_law_726 ?_
  refine tr_G.sld (j := i + 1) dL_law_727 (nI_add i 1) (by omega) (by omega) ?_
  refine tr_G.callM (CW_X7_back (xs (i + 1)) M2 _ h2) yk_X7_back iv_X7_back ml_L_73 rfl shM_1 ⟨rfl, Nat.le_of_ble_eq_true rfl⟩ rfl (fun _ => rfl) (fun _ => rfl) (Nat.le_of_ble_eq_true rfl) rfl dL_law_728 ?_
  refine tr_G.icmp_eq (tgt := 1704) dL_law_731 (by decide) ?_
  exact ih _ _ hI2
set_option maxRecDepth 100000 in
set_option maxHeartbeats 4000000 in
theorem law_14 {Inv : tr_M → tr_M → Prop} (hs : sm_told Inv) {b L B : Nat} {xs : Nat → Int32} {Wt : tr_GT} {i : Nat} {M1 M2 : tr_M} (hI : Inv M1 M2) (hi : i + 6 ≤ L) (hL : L ≤ 3072) (ih : ∀ N1 N2, Inv N1 N2 → tr_G b L xs B Wt 1704 [(3, .int (nI i)), (0, .ref b), (1, .ref (B + 1)), (2, .ref (B + 81 + 1))] [] N1 N2) : tr_G b L xs B Wt 736 [(3, .int (nI i)), (0, .ref b), (1, .ref (B + 1)), (2, .ref (B + 81 + 1))] [] M1 M2 := by
  obtain ⟨r, N1, N2, h1, h2, hI2⟩ := hs M1 M2 (xs (i + 1)) (xs (i + 2)) hI
  refine tr_G.aload_n (i := 1) dL_law_736 2 rfl rfl ?_
  refine tr_G.aload_n (i := 0) dL_law_737 1 rfl rfl ?_
  refine tr_G.iload_n (i := 3) dL_law_738 0 rfl rfl ?_
  refine tr_G.iconst (v := (1 : Int32)) dL_law_739 (by decide) ?_
  refine tr_G.iadd dL_law_740 ?_
  refine tr_G.sld (j := i + 1) dL_law_741 (nI_add i 1) (by omega) (by omega) ?_
  refine tr_G.aload_n (i := 0) dL_law_742 1 rfl rfl ?_
  refine tr_G.iload_n (i := 3) dL_law_743 0 rfl rfl ?_
  refine tr_G.iconst (v := (2 : Int32)) dL_law_744 (by decide) ?_
  refine tr_G.iadd dL_law_745 ?_
  refine tr_G.sld (j := i + 2) dL_law_746 (nI_add i 2) (by omega) (by omega) ?_
  refine tr_G.callX (CW_X6_told (xs (i + 1)) (xs (i + 2)) M1 _ h1) yk_X6_told iv_X6_told ml_L_74 rfl shC_1 ⟨rfl, Nat.le_of_ble_eq_true rfl⟩ rfl (fun _ => rfl) (fun _ => rfl) (Nat.le_of_ble_eq_true rfl) rfl dL_law_747 ?_
  refine tr_G.aload_n (i := 2) dL_law_750 3 rfl rfl ?_
  refine tr_G.aload_n (i := 0) dL_law_751 1 rfl rfl ?_
  refine tr_G.iload_n (i := 3) dL_law_752 0 rfl rfl ?_
  refine tr_G.iconst (v := (1 : Int32)) dL_law_753 (by decide) ?_
  refine tr_G.iadd dL_law_754 ?_
  refine tr_G.sld (j := i + 1) dL_law_755 (nI_add i 1) (by omega) (by omega) ?_
  refine tr_G.aload_n (i := 0) dL_law_756 1 rfl rfl ?_
  refine tr_G.iload_n (i := 3) dL_law_757 0 rfl rfl ?_
  refine tr_G.iconst (v := (2 : Int32)) dL_law_758 (by decide) ?_
  refine tr_G.iadd dL_law_759 ?_
  refine tr_G.sld (j := i + 2) dL_law_760 (nI_add i 2) (by omega) (by omega) ?_
  refine tr_G.callM (CW_X7_told (xs (i + 1)) (xs (i + 2)) M2 _ h2) yk_X7_told iv_X7_told ml_L_77 rfl shM_1 ⟨rfl, Nat.le_of_ble_eq_true rfl⟩ rfl (fun _ => rfl) (fun _ => rfl) (Nat.le_of_ble_eq_true rfl) rfl dL_law_761 ?_
  refine tr_G.icmp_eq (tgt := 1704) dL_law_764 (by decide) ?_
  exact ih _ _ hI2
set_option maxRecDepth 100000 in
set_option maxHeartbeats 4000000 in
theorem law_15 {Inv : tr_M → tr_M → Prop} (hs : sm_mark Inv) {b L B : Nat} {xs : Nat → Int32} {Wt : tr_GT} {i : Nat} {M1 M2 : tr_M} (hI : Inv M1 M2) (hi : i + 6 ≤ L) (hL : L ≤ 3072) (ih : ∀ N1 N2, Inv N1 N2 → tr_G b L xs B Wt 1704 [(3, .int (nI i)), (0, .ref b), (1, .ref (B + 1)), (2, .ref (B + 81 + 1))] [] N1 N2) : tr_G b L xs B Wt 769 [(3, .int (nI i)), (0, .ref b), (1, .ref (B + 1)), (2, .ref (B + 81 + 1))] [] M1 M2 := by
  obtain ⟨r, N1, N2, h1, h2, hI2⟩ := hs M1 M2 (xs (i + 1)) (xs (i + 2)) hI
  refine tr_G.aload_n (i := 1) dL_law_769 2 rfl rfl ?_
  refine tr_G.aload_n (i := 0) dL_law_770 1 rfl rfl ?_
  refine tr_G.iload_n (i := 3) dL_law_771 0 rfl rfl ?_
  refine tr_G.iconst (v := (1 : Int32)) dL_law_772 (by decide) ?_
  refine tr_G.iadd dL_law_773 ?_
  refine tr_G.sld (j := i + 1) dL_law_774 (nI_add i 1) (by omega) (by omega) ?_
  refine tr_G.aload_n (i := 0) dL_law_775 1 rfl rfl ?_
  refine tr_G.iload_n (i := 3) dL_law_776 0 rfl rfl ?_
  refine tr_G.iconst (v := (2 : Int32)) dL_law_777 (by decide) ?_
  refine tr_G.iadd dL_law_778 ?_
  refine tr_G.sld (j := i + 2) dL_law_779 (nI_add i 2) (by omega) (by omega) ?_
  refine tr_G.callX (CW_X6_mark (xs (i + 1)) (xs (i + 2)) M1 _ h1) yk_X6_mark iv_X6_mark ml_L_78 rfl shC_1 ⟨rfl, Nat.le_of_ble_eq_true rfl⟩ rfl (fun _ => rfl) (fun _ => rfl) (Nat.le_of_ble_eq_true rfl) rfl dL_law_780 ?_
  refine tr_G.aload_n (i := 2) dL_law_783 3 rfl rfl ?_
  refine tr_G.aload_n (i := 0) dL_law_784 1 rfl rfl ?_
  refine tr_G.iload_n (i := 3) dL_law_785 0 rfl rfl ?_
  refine tr_G.iconst (v := (1 : Int32)) dL_law_786 (by decide) ?_
  refine tr_G.iadd dL_law_787 ?_
  refine tr_G.sld (j := i + 1) dL_law_788 (nI_add i 1) (by omega) (by omega) ?_
  refine tr_G.aload_n (i := 0) dL_law_789 1 rfl rfl ?_
  refine tr_G.iload_n (i := 3) dL_law_790 0 rfl rfl ?_
  refine tr_G.iconst (v := (2 : Int32)) dL_law_791 (by decide) ?_
  refine tr_G.iadd dL_law_792 ?_
  refine tr_G.sld (j := i + 2) dL_law_793 (nI_add i 2) (by omega) (by omega) ?_
  refine tr_G.callM (CW_X7_mark (xs (i + 1)) (xs (i + 2)) M2 _ h2) yk_X7_mark iv_X7_mark ml_L_81 rfl shM_1 ⟨rfl, Nat.le_of_ble_eq_true rfl⟩ rfl (fun _ => rfl) (fun _ => rfl) (Nat.le_of_ble_eq_true rfl) rfl dL_law_794 ?_
  refine tr_G.icmp_eq (tgt := 1704) dL_law_797 (by decide) ?_
  exact ih _ _ hI2
set_option maxRecDepth 100000 in
set_option maxHeartbeats 4000000 in
theorem law_16 {Inv : tr_M → tr_M → Prop} (hs : sm_measure Inv) {b L B : Nat} {xs : Nat → Int32} {Wt : tr_GT} {i : Nat} {M1 M2 : tr_M} (hI : Inv M1 M2) (hi : i + 6 ≤ L) (hL : L ≤ 3072) (ih : ∀ N1 N2, Inv N1 N2 → tr_G b L xs B Wt 1704 [(3, .int (nI i)), (0, .ref b), (1, .ref (B + 1)), (2, .ref (B + 81 + 1))] [] N1 N2) : tr_G b L xs B Wt 802 [(3, .int (nI i)), (0, .ref b), (1, .ref (B + 1)), (2, .ref (B + 81 + 1))] [] M1 M2 := by
  obtain ⟨r, N1, N2, h1, h2, hI2⟩ := hs M1 M2 (xs (i + 1)) (xs (i + 2)) hI
  refine tr_G.aload_n (i := 1) dL_law_802 2 rfl rfl ?_
  refine tr_G.aload_n (i := 0) dL_law_803 1 rfl rfl ?_
  refine tr_G.iload_n (i := 3) dL_law_804 0 rfl rfl ?_
  refine tr_G.iconst (v := (1 : Int32)) dL_law_805 (by decide) ?_
  refine tr_G.iadd dL_law_806 ?_
  refine tr_G.sld (j := i + 1) dL_law_807 (nI_add i 1) (by omega) (by omega) ?_
  refine tr_G.aload_n (i := 0) dL_law_808 1 rfl rfl ?_
  refine tr_G.iload_n (i := 3) dL_law_809 0 rfl rfl ?_
  refine tr_G.iconst (v := (2 : Int32)) dL_law_810 (by decide) ?_
  refine tr_G.iadd dL_law_811 ?_
  refine tr_G.sld (j := i + 2) dL_law_812 (nI_add i 2) (by omega) (by omega) ?_
  refine tr_G.callX (CW_X6_measure (xs (i + 1)) (xs (i + 2)) M1 _ h1) yk_X6_measure iv_X6_measure ml_L_82 rfl shC_1 ⟨rfl, Nat.le_of_ble_eq_true rfl⟩ rfl (fun _ => rfl) (fun _ => rfl) (Nat.le_of_ble_eq_true rfl) rfl dL_law_813 ?_
  refine tr_G.aload_n (i := 2) dL_law_816 3 rfl rfl ?_
  refine tr_G.aload_n (i := 0) dL_law_817 1 rfl rfl ?_
  refine tr_G.iload_n (i := 3) dL_law_818 0 rfl rfl ?_
  refine tr_G.iconst (v := (1 : Int32)) dL_law_819 (by decide) ?_
  refine tr_G.iadd dL_law_820 ?_
  refine tr_G.sld (j := i + 1) dL_law_821 (nI_add i 1) (by omega) (by omega) ?_
  refine tr_G.aload_n (i := 0) dL_law_822 1 rfl rfl ?_
  refine tr_G.iload_n (i := 3) dL_law_823 0 rfl rfl ?_
  refine tr_G.iconst (v := (2 : Int32)) dL_law_824 (by decide) ?_
  refine tr_G.iadd dL_law_825 ?_
  refine tr_G.sld (j := i + 2) dL_law_826 (nI_add i 2) (by omega) (by omega) ?_
  refine tr_G.callM (CW_X7_measure (xs (i + 1)) (xs (i + 2)) M2 _ h2) yk_X7_measure iv_X7_measure ml_L_85 rfl shM_1 ⟨rfl, Nat.le_of_ble_eq_true rfl⟩ rfl (fun _ => rfl) (fun _ => rfl) (Nat.le_of_ble_eq_true rfl) rfl dL_law_827 ?_
  refine tr_G.icmp_eq (tgt := 1704) dL_law_830 (by decide) ?_
  exact ih _ _ hI2
set_option maxRecDepth 100000 in
set_option maxHeartbeats 4000000 in
theorem law_17 {Inv : tr_M → tr_M → Prop} (hs : sm_breaks Inv) {b L B : Nat} {xs : Nat → Int32} {Wt : tr_GT} {i : Nat} {M1 M2 : tr_M} (hI : Inv M1 M2) (hi : i + 6 ≤ L) (hL : L ≤ 3072) (ih : ∀ N1 N2, Inv N1 N2 → tr_G b L xs B Wt 1704 [(3, .int (nI i)), (0, .ref b), (1, .ref (B + 1)), (2, .ref (B + 81 + 1))] [] N1 N2) : tr_G b L xs B Wt 835 [(3, .int (nI i)), (0, .ref b), (1, .ref (B + 1)), (2, .ref (B + 81 + 1))] [] M1 M2 := by
  obtain ⟨r, N1, N2, h1, h2, hI2⟩ := hs M1 M2 (xs (i + 1)) hI
  refine tr_G.aload_n (i := 1) dL_law_835 2 rfl rfl ?_
  refine tr_G.aload_n (i := 0) dL_law_836 1 rfl rfl ?_
  refine tr_G.iload_n (i := 3) dL_law_837 0 rfl rfl ?_
  refine tr_G.iconst (v := (1 : Int32)) dL_law_838 (by decide) ?_
  refine tr_G.iadd dL_law_839 ?_
  refine tr_G.sld (j := i + 1) dL_law_840 (nI_add i 1) (by omega) (by omega) ?_
  refine tr_G.callX (CW_X6_breaks (xs (i + 1)) M1 _ h1) yk_X6_breaks iv_X6_breaks ml_L_86 rfl shC_1 ⟨rfl, Nat.le_of_ble_eq_true rfl⟩ rfl (fun _ => rfl) (fun _ => rfl) (Nat.le_of_ble_eq_true rfl) rfl dL_law_841 ?_
  refine tr_G.aload_n (i := 2) dL_law_844 3 rfl rfl ?_
  refine tr_G.aload_n (i := 0) dL_law_845 1 rfl rfl ?_
  refine tr_G.iload_n (i := 3) dL_law_846 0 rfl rfl ?_
  refine tr_G.iconst (v := (1 : Int32)) dL_law_847 (by decide) ?_
  refine tr_G.iadd dL_law_848 ?_
  refine tr_G.sld (j := i + 1) dL_law_849 (nI_add i 1) (by omega) (by omega) ?_
  refine tr_G.callM (CW_X7_breaks (xs (i + 1)) M2 _ h2) yk_X7_breaks iv_X7_breaks ml_L_89 rfl shM_1 ⟨rfl, Nat.le_of_ble_eq_true rfl⟩ rfl (fun _ => rfl) (fun _ => rfl) (Nat.le_of_ble_eq_true rfl) rfl dL_law_850 ?_
  refine tr_G.icmp_eq (tgt := 1704) dL_law_853 (by decide) ?_
  exact ih _ _ hI2
set_option maxRecDepth 100000 in
set_option maxHeartbeats 4000000 in
theorem law_18 {Inv : tr_M → tr_M → Prop} (hs : sm_gap Inv) {b L B : Nat} {xs : Nat → Int32} {Wt : tr_GT} {i : Nat} {M1 M2 : tr_M} (hI : Inv M1 M2) (hi : i + 6 ≤ L) (hL : L ≤ 3072) (ih : ∀ N1 N2, Inv N1 N2 → tr_G b L xs B Wt 1704 [(3, .int (nI i)), (0, .ref b), (1, .ref (B + 1)), (2, .ref (B + 81 + 1))] [] N1 N2) : tr_G b L xs B Wt 858 [(3, .int (nI i)), (0, .ref b), (1, .ref (B + 1)), (2, .ref (B + 81 + 1))] [] M1 M2 := by
  obtain ⟨r, N1, N2, h1, h2, hI2⟩ := hs M1 M2 (xs (i + 1)) (xs (i + 2)) hI
  refine tr_G.aload_n (i := 1) dL_law_858 2 rfl rfl ?_
  refine tr_G.aload_n (i := 0) dL_law_859 1 rfl rfl ?_
  refine tr_G.iload_n (i := 3) dL_law_860 0 rfl rfl ?_
  refine tr_G.iconst (v := (1 : Int32)) dL_law_861 (by decide) ?_
  refine tr_G.iadd dL_law_862 ?_
  refine tr_G.sld (j := i + 1) dL_law_863 (nI_add i 1) (by omega) (by omega) ?_
  refine tr_G.aload_n (i := 0) dL_law_864 1 rfl rfl ?_
  refine tr_G.iload_n (i := 3) dL_law_865 0 rfl rfl ?_
  refine tr_G.iconst (v := (2 : Int32)) dL_law_866 (by decide) ?_
  refine tr_G.iadd dL_law_867 ?_
  refine tr_G.sld (j := i + 2) dL_law_868 (nI_add i 2) (by omega) (by omega) ?_
  refine tr_G.callX (CW_X6_gap (xs (i + 1)) (xs (i + 2)) M1 _ h1) yk_X6_gap iv_X6_gap ml_L_90 rfl shC_1 ⟨rfl, Nat.le_of_ble_eq_true rfl⟩ rfl (fun _ => rfl) (fun _ => rfl) (Nat.le_of_ble_eq_true rfl) rfl dL_law_869 ?_
  refine tr_G.aload_n (i := 2) dL_law_872 3 rfl rfl ?_
  refine tr_G.aload_n (i := 0) dL_law_873 1 rfl rfl ?_
  refine tr_G.iload_n (i := 3) dL_law_874 0 rfl rfl ?_
  refine tr_G.iconst (v := (1 : Int32)) dL_law_875 (by decide) ?_
  refine tr_G.iadd dL_law_876 ?_
  refine tr_G.sld (j := i + 1) dL_law_877 (nI_add i 1) (by omega) (by omega) ?_
  refine tr_G.aload_n (i := 0) dL_law_878 1 rfl rfl ?_
  refine tr_G.iload_n (i := 3) dL_law_879 0 rfl rfl ?_
  refine tr_G.iconst (v := (2 : Int32)) dL_law_880 (by decide) ?_
  refine tr_G.iadd dL_law_881 ?_
  refine tr_G.sld (j := i + 2) dL_law_882 (nI_add i 2) (by omega) (by omega) ?_
  refine tr_G.callM (CW_X7_gap (xs (i + 1)) (xs (i + 2)) M2 _ h2) yk_X7_gap iv_X7_gap ml_L_93 rfl shM_1 ⟨rfl, Nat.le_of_ble_eq_true rfl⟩ rfl (fun _ => rfl) (fun _ => rfl) (Nat.le_of_ble_eq_true rfl) rfl dL_law_883 ?_
  refine tr_G.icmp_eq (tgt := 1704) dL_law_886 (by decide) ?_
  exact ih _ _ hI2
set_option maxRecDepth 100000 in
set_option maxHeartbeats 4000000 in
theorem law_19 {Inv : tr_M → tr_M → Prop} (hs : sm_least Inv) {b L B : Nat} {xs : Nat → Int32} {Wt : tr_GT} {i : Nat} {M1 M2 : tr_M} (hI : Inv M1 M2) (hi : i + 6 ≤ L) (hL : L ≤ 3072) (ih : ∀ N1 N2, Inv N1 N2 → tr_G b L xs B Wt 1704 [(3, .int (nI i)), (0, .ref b), (1, .ref (B + 1)), (2, .ref (B + 81 + 1))] [] N1 N2) : tr_G b L xs B Wt 891 [(3, .int (nI i)), (0, .ref b), (1, .ref (B + 1)), (2, .ref (B + 81 + 1))] [] M1 M2 := by
  obtain ⟨r, N1, N2, h1, h2, hI2⟩ := hs M1 M2 (xs (i + 1)) hI
  refine tr_G.aload_n (i := 1) dL_law_891 2 rfl rfl ?_
  refine tr_G.aload_n (i := 0) dL_law_892 1 rfl rfl ?_
  refine tr_G.iload_n (i := 3) dL_law_893 0 rfl rfl ?_
  refine tr_G.iconst (v := (1 : Int32)) dL_law_894 (by decide) ?_
  refine tr_G.iadd dL_law_895 ?_
  refine tr_G.sld (j := i + 1) dL_law_896 (nI_add i 1) (by omega) (by omega) ?_
  refine tr_G.callX (CW_X6_least (xs (i + 1)) M1 _ h1) yk_X6_least iv_X6_least ml_L_94 rfl shC_1 ⟨rfl, Nat.le_of_ble_eq_true rfl⟩ rfl (fun _ => rfl) (fun _ => rfl) (Nat.le_of_ble_eq_true rfl) rfl dL_law_897 ?_
  refine tr_G.aload_n (i := 2) dL_law_900 3 rfl rfl ?_
  refine tr_G.aload_n (i := 0) dL_law_901 1 rfl rfl ?_
  refine tr_G.iload_n (i := 3) dL_law_902 0 rfl rfl ?_
  refine tr_G.iconst (v := (1 : Int32)) dL_law_903 (by decide) ?_
  refine tr_G.iadd dL_law_904 ?_
  refine tr_G.sld (j := i + 1) dL_law_905 (nI_add i 1) (by omega) (by omega) ?_
  refine tr_G.callM (CW_X7_least (xs (i + 1)) M2 _ h2) yk_X7_least iv_X7_least ml_L_97 rfl shM_1 ⟨rfl, Nat.le_of_ble_eq_true rfl⟩ rfl (fun _ => rfl) (fun _ => rfl) (Nat.le_of_ble_eq_true rfl) rfl dL_law_906 ?_
  refine tr_G.icmp_eq (tgt := 1704) dL_law_909 (by decide) ?_
  exact ih _ _ hI2
set_option maxRecDepth 100000 in
set_option maxHeartbeats 4000000 in
theorem law_20 {Inv : tr_M → tr_M → Prop} (hs : sm_first Inv) {b L B : Nat} {xs : Nat → Int32} {Wt : tr_GT} {i : Nat} {M1 M2 : tr_M} (hI : Inv M1 M2) (hi : i + 6 ≤ L) (hL : L ≤ 3072) (ih : ∀ N1 N2, Inv N1 N2 → tr_G b L xs B Wt 1704 [(3, .int (nI i)), (0, .ref b), (1, .ref (B + 1)), (2, .ref (B + 81 + 1))] [] N1 N2) : tr_G b L xs B Wt 914 [(3, .int (nI i)), (0, .ref b), (1, .ref (B + 1)), (2, .ref (B + 81 + 1))] [] M1 M2 := by
  obtain ⟨r, N1, N2, h1, h2, hI2⟩ := hs M1 M2 (xs (i + 1)) (xs (i + 2)) hI
  refine tr_G.aload_n (i := 1) dL_law_914 2 rfl rfl ?_
  refine tr_G.aload_n (i := 0) dL_law_915 1 rfl rfl ?_
  refine tr_G.iload_n (i := 3) dL_law_916 0 rfl rfl ?_
  refine tr_G.iconst (v := (1 : Int32)) dL_law_917 (by decide) ?_
  refine tr_G.iadd dL_law_918 ?_
  refine tr_G.sld (j := i + 1) dL_law_919 (nI_add i 1) (by omega) (by omega) ?_
  refine tr_G.aload_n (i := 0) dL_law_920 1 rfl rfl ?_
  refine tr_G.iload_n (i := 3) dL_law_921 0 rfl rfl ?_
  refine tr_G.iconst (v := (2 : Int32)) dL_law_922 (by decide) ?_
  refine tr_G.iadd dL_law_923 ?_
  refine tr_G.sld (j := i + 2) dL_law_924 (nI_add i 2) (by omega) (by omega) ?_
  refine tr_G.callX (CW_X6_first (xs (i + 1)) (xs (i + 2)) M1 _ h1) yk_X6_first iv_X6_first ml_L_98 rfl shC_1 ⟨rfl, Nat.le_of_ble_eq_true rfl⟩ rfl (fun _ => rfl) (fun _ => rfl) (Nat.le_of_ble_eq_true rfl) rfl dL_law_925 ?_
  refine tr_G.aload_n (i := 2) dL_law_928 3 rfl rfl ?_
  refine tr_G.aload_n (i := 0) dL_law_929 1 rfl rfl ?_
  refine tr_G.iload_n (i := 3) dL_law_930 0 rfl rfl ?_
  refine tr_G.iconst (v := (1 : Int32)) dL_law_931 (by decide) ?_
  refine tr_G.iadd dL_law_932 ?_
  refine tr_G.sld (j := i + 1) dL_law_933 (nI_add i 1) (by omega) (by omega) ?_
  refine tr_G.aload_n (i := 0) dL_law_934 1 rfl rfl ?_
  refine tr_G.iload_n (i := 3) dL_law_935 0 rfl rfl ?_
  refine tr_G.iconst (v := (2 : Int32)) dL_law_936 (by decide) ?_
  refine tr_G.iadd dL_law_937 ?_
  refine tr_G.sld (j := i + 2) dL_law_938 (nI_add i 2) (by omega) (by omega) ?_
  refine tr_G.callM (CW_X7_first (xs (i + 1)) (xs (i + 2)) M2 _ h2) yk_X7_first iv_X7_first ml_L_101 rfl shM_1 ⟨rfl, Nat.le_of_ble_eq_true rfl⟩ rfl (fun _ => rfl) (fun _ => rfl) (Nat.le_of_ble_eq_true rfl) rfl dL_law_939 ?_
  refine tr_G.icmp_eq (tgt := 1704) dL_law_942 (by decide) ?_
  exact ih _ _ hI2
set_option maxRecDepth 100000 in
set_option maxHeartbeats 4000000 in
theorem law_21 {Inv : tr_M → tr_M → Prop} (hs : sm_ways Inv) {b L B : Nat} {xs : Nat → Int32} {Wt : tr_GT} {i : Nat} {M1 M2 : tr_M} (hI : Inv M1 M2) (hi : i + 6 ≤ L) (hL : L ≤ 3072) (ih : ∀ N1 N2, Inv N1 N2 → tr_G b L xs B Wt 1704 [(3, .int (nI i)), (0, .ref b), (1, .ref (B + 1)), (2, .ref (B + 81 + 1))] [] N1 N2) : tr_G b L xs B Wt 947 [(3, .int (nI i)), (0, .ref b), (1, .ref (B + 1)), (2, .ref (B + 81 + 1))] [] M1 M2 := by
  obtain ⟨r, N1, N2, h1, h2, hI2⟩ := hs M1 M2 (xs (i + 1)) hI
  refine tr_G.aload_n (i := 1) dL_law_947 2 rfl rfl ?_
  refine tr_G.aload_n (i := 0) dL_law_948 1 rfl rfl ?_
  refine tr_G.iload_n (i := 3) dL_law_949 0 rfl rfl ?_
  refine tr_G.iconst (v := (1 : Int32)) dL_law_950 (by decide) ?_
  refine tr_G.iadd dL_law_951 ?_
  refine tr_G.sld (j := i + 1) dL_law_952 (nI_add i 1) (by omega) (by omega) ?_
  refine tr_G.callX (CW_X6_ways (xs (i + 1)) M1 _ h1) yk_X6_ways iv_X6_ways ml_L_102 rfl shC_1 ⟨rfl, Nat.le_of_ble_eq_true rfl⟩ rfl (fun _ => rfl) (fun _ => rfl) (Nat.le_of_ble_eq_true rfl) rfl dL_law_953 ?_
  refine tr_G.aload_n (i := 2) dL_law_956 3 rfl rfl ?_
  refine tr_G.aload_n (i := 0) dL_law_957 1 rfl rfl ?_
  refine tr_G.iload_n (i := 3) dL_law_958 0 rfl rfl ?_
  refine tr_G.iconst (v := (1 : Int32)) dL_law_959 (by decide) ?_
  refine tr_G.iadd dL_law_960 ?_
  refine tr_G.sld (j := i + 1) dL_law_961 (nI_add i 1) (by omega) (by omega) ?_
  refine tr_G.callM (CW_X7_ways (xs (i + 1)) M2 _ h2) yk_X7_ways iv_X7_ways ml_L_105 rfl shM_1 ⟨rfl, Nat.le_of_ble_eq_true rfl⟩ rfl (fun _ => rfl) (fun _ => rfl) (Nat.le_of_ble_eq_true rfl) rfl dL_law_962 ?_
  refine tr_G.icmp_eq (tgt := 1704) dL_law_965 (by decide) ?_
  exact ih _ _ hI2
set_option maxRecDepth 100000 in
set_option maxHeartbeats 4000000 in
theorem law_22 {Inv : tr_M → tr_M → Prop} (hs : sm_rank Inv) {b L B : Nat} {xs : Nat → Int32} {Wt : tr_GT} {i : Nat} {M1 M2 : tr_M} (hI : Inv M1 M2) (hi : i + 6 ≤ L) (hL : L ≤ 3072) (ih : ∀ N1 N2, Inv N1 N2 → tr_G b L xs B Wt 1704 [(3, .int (nI i)), (0, .ref b), (1, .ref (B + 1)), (2, .ref (B + 81 + 1))] [] N1 N2) : tr_G b L xs B Wt 970 [(3, .int (nI i)), (0, .ref b), (1, .ref (B + 1)), (2, .ref (B + 81 + 1))] [] M1 M2 := by
  obtain ⟨r, N1, N2, h1, h2, hI2⟩ := hs M1 M2 (xs (i + 1)) (xs (i + 2)) hI
  refine tr_G.aload_n (i := 1) dL_law_970 2 rfl rfl ?_
  refine tr_G.aload_n (i := 0) dL_law_971 1 rfl rfl ?_
  refine tr_G.iload_n (i := 3) dL_law_972 0 rfl rfl ?_
  refine tr_G.iconst (v := (1 : Int32)) dL_law_973 (by decide) ?_
  refine tr_G.iadd dL_law_974 ?_
  refine tr_G.sld (j := i + 1) dL_law_975 (nI_add i 1) (by omega) (by omega) ?_
  refine tr_G.aload_n (i := 0) dL_law_976 1 rfl rfl ?_
  refine tr_G.iload_n (i := 3) dL_law_977 0 rfl rfl ?_
  refine tr_G.iconst (v := (2 : Int32)) dL_law_978 (by decide) ?_
  refine tr_G.iadd dL_law_979 ?_
  refine tr_G.sld (j := i + 2) dL_law_980 (nI_add i 2) (by omega) (by omega) ?_
  refine tr_G.callX (CW_X6_rank (xs (i + 1)) (xs (i + 2)) M1 _ h1) yk_X6_rank iv_X6_rank ml_L_106 rfl shC_1 ⟨rfl, Nat.le_of_ble_eq_true rfl⟩ rfl (fun _ => rfl) (fun _ => rfl) (Nat.le_of_ble_eq_true rfl) rfl dL_law_981 ?_
  refine tr_G.aload_n (i := 2) dL_law_984 3 rfl rfl ?_
  refine tr_G.aload_n (i := 0) dL_law_985 1 rfl rfl ?_
  refine tr_G.iload_n (i := 3) dL_law_986 0 rfl rfl ?_
  refine tr_G.iconst (v := (1 : Int32)) dL_law_987 (by decide) ?_
  refine tr_G.iadd dL_law_988 ?_
  refine tr_G.sld (j := i + 1) dL_law_989 (nI_add i 1) (by omega) (by omega) ?_
  refine tr_G.aload_n (i := 0) dL_law_990 1 rfl rfl ?_
  refine tr_G.iload_n (i := 3) dL_law_991 0 rfl rfl ?_
  refine tr_G.iconst (v := (2 : Int32)) dL_law_992 (by decide) ?_
  refine tr_G.iadd dL_law_993 ?_
  refine tr_G.sld (j := i + 2) dL_law_994 (nI_add i 2) (by omega) (by omega) ?_
  refine tr_G.callM (CW_X7_rank (xs (i + 1)) (xs (i + 2)) M2 _ h2) yk_X7_rank iv_X7_rank ml_L_109 rfl shM_1 ⟨rfl, Nat.le_of_ble_eq_true rfl⟩ rfl (fun _ => rfl) (fun _ => rfl) (Nat.le_of_ble_eq_true rfl) rfl dL_law_995 ?_
  refine tr_G.icmp_eq (tgt := 1704) dL_law_998 (by decide) ?_
  exact ih _ _ hI2
set_option maxRecDepth 100000 in
set_option maxHeartbeats 4000000 in
theorem law_23 {Inv : tr_M → tr_M → Prop} (hs : sm_order Inv) {b L B : Nat} {xs : Nat → Int32} {Wt : tr_GT} {i : Nat} {M1 M2 : tr_M} (hI : Inv M1 M2) (hi : i + 6 ≤ L) (hL : L ≤ 3072) (ih : ∀ N1 N2, Inv N1 N2 → tr_G b L xs B Wt 1704 [(3, .int (nI i)), (0, .ref b), (1, .ref (B + 1)), (2, .ref (B + 81 + 1))] [] N1 N2) : tr_G b L xs B Wt 1003 [(3, .int (nI i)), (0, .ref b), (1, .ref (B + 1)), (2, .ref (B + 81 + 1))] [] M1 M2 := by
  obtain ⟨r, N1, N2, h1, h2, hI2⟩ := hs M1 M2 (xs (i + 1)) (xs (i + 2)) (xs (i + 3)) hI
  refine tr_G.aload_n (i := 1) dL_law_1003 2 rfl rfl ?_
  refine tr_G.aload_n (i := 0) dL_law_1004 1 rfl rfl ?_
  refine tr_G.iload_n (i := 3) dL_law_1005 0 rfl rfl ?_
  refine tr_G.iconst (v := (1 : Int32)) dL_law_1006 (by decide) ?_
  refine tr_G.iadd dL_law_1007 ?_
  refine tr_G.sld (j := i + 1) dL_law_1008 (nI_add i 1) (by omega) (by omega) ?_
  refine tr_G.aload_n (i := 0) dL_law_1009 1 rfl rfl ?_
  refine tr_G.iload_n (i := 3) dL_law_1010 0 rfl rfl ?_
  refine tr_G.iconst (v := (2 : Int32)) dL_law_1011 (by decide) ?_
  refine tr_G.iadd dL_law_1012 ?_
  refine tr_G.sld (j := i + 2) dL_law_1013 (nI_add i 2) (by omega) (by omega) ?_
  refine tr_G.aload_n (i := 0) dL_law_1014 1 rfl rfl ?_
  refine tr_G.iload_n (i := 3) dL_law_1015 0 rfl rfl ?_
  refine tr_G.iconst (v := (3 : Int32)) dL_law_1016 (by decide) ?_
  refine tr_G.iadd dL_law_1017 ?_
  refine tr_G.sld (j := i + 3) dL_law_1018 (nI_add i 3) (by omega) (by omega) ?_
  refine tr_G.callX (CW_X6_order (xs (i + 1)) (xs (i + 2)) (xs (i + 3)) M1 _ h1) yk_X6_order iv_X6_order ml_L_110 rfl shC_1 ⟨rfl, Nat.le_of_ble_eq_true rfl⟩ rfl (fun _ => rfl) (fun _ => rfl) (Nat.le_of_ble_eq_true rfl) rfl dL_law_1019 ?_
  refine tr_G.aload_n (i := 2) dL_law_1022 3 rfl rfl ?_
  refine tr_G.aload_n (i := 0) dL_law_1023 1 rfl rfl ?_
  refine tr_G.iload_n (i := 3) dL_law_1024 0 rfl rfl ?_
  refine tr_G.iconst (v := (1 : Int32)) dL_law_1025 (by decide) ?_
  refine tr_G.iadd dL_law_1026 ?_
  refine tr_G.sld (j := i + 1) dL_law_1027 (nI_add i 1) (by omega) (by omega) ?_
  refine tr_G.aload_n (i := 0) dL_law_1028 1 rfl rfl ?_
  refine tr_G.iload_n (i := 3) dL_law_1029 0 rfl rfl ?_
  refine tr_G.iconst (v := (2 : Int32)) dL_law_1030 (by decide) ?_
  refine tr_G.iadd dL_law_1031 ?_
  refine tr_G.sld (j := i + 2) dL_law_1032 (nI_add i 2) (by omega) (by omega) ?_
  refine tr_G.aload_n (i := 0) dL_law_1033 1 rfl rfl ?_
  refine tr_G.iload_n (i := 3) dL_law_1034 0 rfl rfl ?_
  refine tr_G.iconst (v := (3 : Int32)) dL_law_1035 (by decide) ?_
  refine tr_G.iadd dL_law_1036 ?_
  refine tr_G.sld (j := i + 3) dL_law_1037 (nI_add i 3) (by omega) (by omega) ?_
  refine tr_G.callM (CW_X7_order (xs (i + 1)) (xs (i + 2)) (xs (i + 3)) M2 _ h2) yk_X7_order iv_X7_order ml_L_113 rfl shM_1 ⟨rfl, Nat.le_of_ble_eq_true rfl⟩ rfl (fun _ => rfl) (fun _ => rfl) (Nat.le_of_ble_eq_true rfl) rfl dL_law_1038 ?_
  refine tr_G.icmp_eq (tgt := 1704) dL_law_1041 (by decide) ?_
  exact ih _ _ hI2
set_option maxRecDepth 100000 in
set_option maxHeartbeats 4000000 in
theorem law_24 {Inv : tr_M → tr_M → Prop} (hs : sm_all Inv) {b L B : Nat} {xs : Nat → Int32} {Wt : tr_GT} {i : Nat} {M1 M2 : tr_M} (hI : Inv M1 M2) (hi : i + 6 ≤ L) (hL : L ≤ 3072) (ih : ∀ N1 N2, Inv N1 N2 → tr_G b L xs B Wt 1704 [(3, .int (nI i)), (0, .ref b), (1, .ref (B + 1)), (2, .ref (B + 81 + 1))] [] N1 N2) : tr_G b L xs B Wt 1046 [(3, .int (nI i)), (0, .ref b), (1, .ref (B + 1)), (2, .ref (B + 81 + 1))] [] M1 M2 := by
  obtain ⟨r, N1, N2, h1, h2, hI2⟩ := hs M1 M2 hI
  refine tr_G.aload_n (i := 1) dL_law_1046 2 rfl rfl ?_
  refine tr_G.callX (CW_X6_all M1 _ h1) yk_X6_all iv_X6_all ml_L_114 rfl shC_1 ⟨rfl, Nat.le_of_ble_eq_true rfl⟩ rfl (fun _ => rfl) (fun _ => rfl) (Nat.le_of_ble_eq_true rfl) rfl dL_law_1047 ?_
  refine tr_G.aload_n (i := 2) dL_law_1050 3 rfl rfl ?_
  refine tr_G.callM (CW_X7_all M2 _ h2) yk_X7_all iv_X7_all ml_L_118 rfl shM_1 ⟨rfl, Nat.le_of_ble_eq_true rfl⟩ rfl (fun _ => rfl) (fun _ => rfl) (Nat.le_of_ble_eq_true rfl) rfl dL_law_1051 ?_
  refine tr_G.icmp_eq (tgt := 1704) dL_law_1054 (by decide) ?_
  exact ih _ _ hI2
set_option maxRecDepth 100000 in
set_option maxHeartbeats 4000000 in
theorem law_25 {Inv : tr_M → tr_M → Prop} (hs : sm_bound Inv) {b L B : Nat} {xs : Nat → Int32} {Wt : tr_GT} {i : Nat} {M1 M2 : tr_M} (hI : Inv M1 M2) (hi : i + 6 ≤ L) (hL : L ≤ 3072) (ih : ∀ N1 N2, Inv N1 N2 → tr_G b L xs B Wt 1704 [(3, .int (nI i)), (0, .ref b), (1, .ref (B + 1)), (2, .ref (B + 81 + 1))] [] N1 N2) : tr_G b L xs B Wt 1059 [(3, .int (nI i)), (0, .ref b), (1, .ref (B + 1)), (2, .ref (B + 81 + 1))] [] M1 M2 := by
  obtain ⟨r, N1, N2, h1, h2, hI2⟩ := hs M1 M2 (xs (i + 1)) hI
  refine tr_G.aload_n (i := 1) dL_law_1059 2 rfl rfl ?_
  refine tr_G.aload_n (i := 0) dL_law_1060 1 rfl rfl ?_
  refine tr_G.iload_n (i := 3) dL_law_1061 0 rfl rfl ?_
  refine tr_G.iconst (v := (1 : Int32)) dL_law_1062 (by decide) ?_
  refine tr_G.iadd dL_law_1063 ?_
  refine tr_G.sld (j := i + 1) dL_law_1064 (nI_add i 1) (by omega) (by omega) ?_
  refine tr_G.callX (CW_X6_bound (xs (i + 1)) M1 _ h1) yk_X6_bound iv_X6_bound ml_L_119 rfl shC_1 ⟨rfl, Nat.le_of_ble_eq_true rfl⟩ rfl (fun _ => rfl) (fun _ => rfl) (Nat.le_of_ble_eq_true rfl) rfl dL_law_1065 ?_
  refine tr_G.aload_n (i := 2) dL_law_1068 3 rfl rfl ?_
  refine tr_G.aload_n (i := 0) dL_law_1069 1 rfl rfl ?_
  refine tr_G.iload_n (i := 3) dL_law_1070 0 rfl rfl ?_
  refine tr_G.iconst (v := (1 : Int32)) dL_law_1071 (by decide) ?_
  refine tr_G.iadd dL_law_1072 ?_
  refine tr_G.sld (j := i + 1) dL_law_1073 (nI_add i 1) (by omega) (by omega) ?_
  refine tr_G.callM (CW_X7_bound (xs (i + 1)) M2 _ h2) yk_X7_bound iv_X7_bound ml_L_122 rfl shM_1 ⟨rfl, Nat.le_of_ble_eq_true rfl⟩ rfl (fun _ => rfl) (fun _ => rfl) (Nat.le_of_ble_eq_true rfl) rfl dL_law_1074 ?_
  refine tr_G.icmp_eq (tgt := 1704) dL_law_1077 (by decide) ?_
  exact ih _ _ hI2
set_option maxRecDepth 100000 in
set_option maxHeartbeats 4000000 in
theorem law_26 {Inv : tr_M → tr_M → Prop} (hs : sm_costs Inv) {b L B : Nat} {xs : Nat → Int32} {Wt : tr_GT} {i : Nat} {M1 M2 : tr_M} (hI : Inv M1 M2) (hi : i + 6 ≤ L) (hL : L ≤ 3072) (ih : ∀ N1 N2, Inv N1 N2 → tr_G b L xs B Wt 1704 [(3, .int (nI i)), (0, .ref b), (1, .ref (B + 1)), (2, .ref (B + 81 + 1))] [] N1 N2) : tr_G b L xs B Wt 1082 [(3, .int (nI i)), (0, .ref b), (1, .ref (B + 1)), (2, .ref (B + 81 + 1))] [] M1 M2 := by
  obtain ⟨r, N1, N2, h1, h2, hI2⟩ := hs M1 M2 (xs (i + 1)) (xs (i + 2)) (xs (i + 3)) hI
  refine tr_G.aload_n (i := 1) dL_law_1082 2 rfl rfl ?_
  refine tr_G.aload_n (i := 0) dL_law_1083 1 rfl rfl ?_
  refine tr_G.iload_n (i := 3) dL_law_1084 0 rfl rfl ?_
  refine tr_G.iconst (v := (1 : Int32)) dL_law_1085 (by decide) ?_
  refine tr_G.iadd dL_law_1086 ?_
  refine tr_G.sld (j := i + 1) dL_law_1087 (nI_add i 1) (by omega) (by omega) ?_
  refine tr_G.aload_n (i := 0) dL_law_1088 1 rfl rfl ?_
  refine tr_G.iload_n (i := 3) dL_law_1089 0 rfl rfl ?_
  refine tr_G.iconst (v := (2 : Int32)) dL_law_1090 (by decide) ?_
  refine tr_G.iadd dL_law_1091 ?_
  refine tr_G.sld (j := i + 2) dL_law_1092 (nI_add i 2) (by omega) (by omega) ?_
  refine tr_G.aload_n (i := 0) dL_law_1093 1 rfl rfl ?_
  refine tr_G.iload_n (i := 3) dL_law_1094 0 rfl rfl ?_
  refine tr_G.iconst (v := (3 : Int32)) dL_law_1095 (by decide) ?_
  refine tr_G.iadd dL_law_1096 ?_
  refine tr_G.sld (j := i + 3) dL_law_1097 (nI_add i 3) (by omega) (by omega) ?_
  refine tr_G.callX (CW_X6_costs (xs (i + 1)) (xs (i + 2)) (xs (i + 3)) M1 _ h1) yk_X6_costs iv_X6_costs ml_L_123 rfl shC_1 ⟨rfl, Nat.le_of_ble_eq_true rfl⟩ rfl (fun _ => rfl) (fun _ => rfl) (Nat.le_of_ble_eq_true rfl) rfl dL_law_1098 ?_
  refine tr_G.aload_n (i := 2) dL_law_1101 3 rfl rfl ?_
  refine tr_G.aload_n (i := 0) dL_law_1102 1 rfl rfl ?_
  refine tr_G.iload_n (i := 3) dL_law_1103 0 rfl rfl ?_
  refine tr_G.iconst (v := (1 : Int32)) dL_law_1104 (by decide) ?_
  refine tr_G.iadd dL_law_1105 ?_
  refine tr_G.sld (j := i + 1) dL_law_1106 (nI_add i 1) (by omega) (by omega) ?_
  refine tr_G.aload_n (i := 0) dL_law_1107 1 rfl rfl ?_
  refine tr_G.iload_n (i := 3) dL_law_1108 0 rfl rfl ?_
  refine tr_G.iconst (v := (2 : Int32)) dL_law_1109 (by decide) ?_
  refine tr_G.iadd dL_law_1110 ?_
  refine tr_G.sld (j := i + 2) dL_law_1111 (nI_add i 2) (by omega) (by omega) ?_
  refine tr_G.aload_n (i := 0) dL_law_1112 1 rfl rfl ?_
  refine tr_G.iload_n (i := 3) dL_law_1113 0 rfl rfl ?_
  refine tr_G.iconst (v := (3 : Int32)) dL_law_1114 (by decide) ?_
  refine tr_G.iadd dL_law_1115 ?_
  refine tr_G.sld (j := i + 3) dL_law_1116 (nI_add i 3) (by omega) (by omega) ?_
  refine tr_G.callM (CW_X7_costs (xs (i + 1)) (xs (i + 2)) (xs (i + 3)) M2 _ h2) yk_X7_costs iv_X7_costs ml_L_126 rfl shM_1 ⟨rfl, Nat.le_of_ble_eq_true rfl⟩ rfl (fun _ => rfl) (fun _ => rfl) (Nat.le_of_ble_eq_true rfl) rfl dL_law_1117 ?_
  refine tr_G.icmp_eq (tgt := 1704) dL_law_1120 (by decide) ?_
  exact ih _ _ hI2
set_option maxRecDepth 100000 in
set_option maxHeartbeats 4000000 in
theorem law_27 {Inv : tr_M → tr_M → Prop} (hs : sm_bars Inv) {b L B : Nat} {xs : Nat → Int32} {Wt : tr_GT} {i : Nat} {M1 M2 : tr_M} (hI : Inv M1 M2) (hi : i + 6 ≤ L) (hL : L ≤ 3072) (ih : ∀ N1 N2, Inv N1 N2 → tr_G b L xs B Wt 1704 [(3, .int (nI i)), (0, .ref b), (1, .ref (B + 1)), (2, .ref (B + 81 + 1))] [] N1 N2) : tr_G b L xs B Wt 1125 [(3, .int (nI i)), (0, .ref b), (1, .ref (B + 1)), (2, .ref (B + 81 + 1))] [] M1 M2 := by
  obtain ⟨r, N1, N2, h1, h2, hI2⟩ := hs M1 M2 (xs (i + 1)) (xs (i + 2)) hI
  refine tr_G.aload_n (i := 1) dL_law_1125 2 rfl rfl ?_
  refine tr_G.aload_n (i := 0) dL_law_1126 1 rfl rfl ?_
  refine tr_G.iload_n (i := 3) dL_law_1127 0 rfl rfl ?_
  refine tr_G.iconst (v := (1 : Int32)) dL_law_1128 (by decide) ?_
  refine tr_G.iadd dL_law_1129 ?_
  refine tr_G.sld (j := i + 1) dL_law_1130 (nI_add i 1) (by omega) (by omega) ?_
  refine tr_G.aload_n (i := 0) dL_law_1131 1 rfl rfl ?_
  refine tr_G.iload_n (i := 3) dL_law_1132 0 rfl rfl ?_
  refine tr_G.iconst (v := (2 : Int32)) dL_law_1133 (by decide) ?_
  refine tr_G.iadd dL_law_1134 ?_
  refine tr_G.sld (j := i + 2) dL_law_1135 (nI_add i 2) (by omega) (by omega) ?_
  refine tr_G.callX (CW_X6_bars (xs (i + 1)) (xs (i + 2)) M1 _ h1) yk_X6_bars iv_X6_bars ml_L_127 rfl shC_1 ⟨rfl, Nat.le_of_ble_eq_true rfl⟩ rfl (fun _ => rfl) (fun _ => rfl) (Nat.le_of_ble_eq_true rfl) rfl dL_law_1136 ?_
  refine tr_G.aload_n (i := 2) dL_law_1139 3 rfl rfl ?_
  refine tr_G.aload_n (i := 0) dL_law_1140 1 rfl rfl ?_
  refine tr_G.iload_n (i := 3) dL_law_1141 0 rfl rfl ?_
  refine tr_G.iconst (v := (1 : Int32)) dL_law_1142 (by decide) ?_
  refine tr_G.iadd dL_law_1143 ?_
  refine tr_G.sld (j := i + 1) dL_law_1144 (nI_add i 1) (by omega) (by omega) ?_
  refine tr_G.aload_n (i := 0) dL_law_1145 1 rfl rfl ?_
  refine tr_G.iload_n (i := 3) dL_law_1146 0 rfl rfl ?_
  refine tr_G.iconst (v := (2 : Int32)) dL_law_1147 (by decide) ?_
  refine tr_G.iadd dL_law_1148 ?_
  refine tr_G.sld (j := i + 2) dL_law_1149 (nI_add i 2) (by omega) (by omega) ?_
  refine tr_G.callM (CW_X7_bars (xs (i + 1)) (xs (i + 2)) M2 _ h2) yk_X7_bars iv_X7_bars ml_L_130 rfl shM_1 ⟨rfl, Nat.le_of_ble_eq_true rfl⟩ rfl (fun _ => rfl) (fun _ => rfl) (Nat.le_of_ble_eq_true rfl) rfl dL_law_1150 ?_
  refine tr_G.icmp_eq (tgt := 1704) dL_law_1153 (by decide) ?_
  exact ih _ _ hI2
set_option maxRecDepth 100000 in
set_option maxHeartbeats 4000000 in
theorem law_28 {Inv : tr_M → tr_M → Prop} (hs : sm_where Inv) {b L B : Nat} {xs : Nat → Int32} {Wt : tr_GT} {i : Nat} {M1 M2 : tr_M} (hI : Inv M1 M2) (hi : i + 6 ≤ L) (hL : L ≤ 3072) (ih : ∀ N1 N2, Inv N1 N2 → tr_G b L xs B Wt 1704 [(3, .int (nI i)), (0, .ref b), (1, .ref (B + 1)), (2, .ref (B + 81 + 1))] [] N1 N2) : tr_G b L xs B Wt 1158 [(3, .int (nI i)), (0, .ref b), (1, .ref (B + 1)), (2, .ref (B + 81 + 1))] [] M1 M2 := by
  obtain ⟨r, N1, N2, h1, h2, hI2⟩ := hs M1 M2 (xs (i + 1)) (xs (i + 2)) (xs (i + 3)) hI
  refine tr_G.aload_n (i := 1) dL_law_1158 2 rfl rfl ?_
  refine tr_G.aload_n (i := 0) dL_law_1159 1 rfl rfl ?_
  refine tr_G.iload_n (i := 3) dL_law_1160 0 rfl rfl ?_
  refine tr_G.iconst (v := (1 : Int32)) dL_law_1161 (by decide) ?_
  refine tr_G.iadd dL_law_1162 ?_
  refine tr_G.sld (j := i + 1) dL_law_1163 (nI_add i 1) (by omega) (by omega) ?_
  refine tr_G.aload_n (i := 0) dL_law_1164 1 rfl rfl ?_
  refine tr_G.iload_n (i := 3) dL_law_1165 0 rfl rfl ?_
  refine tr_G.iconst (v := (2 : Int32)) dL_law_1166 (by decide) ?_
  refine tr_G.iadd dL_law_1167 ?_
  refine tr_G.sld (j := i + 2) dL_law_1168 (nI_add i 2) (by omega) (by omega) ?_
  refine tr_G.aload_n (i := 0) dL_law_1169 1 rfl rfl ?_
  refine tr_G.iload_n (i := 3) dL_law_1170 0 rfl rfl ?_
  refine tr_G.iconst (v := (3 : Int32)) dL_law_1171 (by decide) ?_
  refine tr_G.iadd dL_law_1172 ?_
  refine tr_G.sld (j := i + 3) dL_law_1173 (nI_add i 3) (by omega) (by omega) ?_
  refine tr_G.callX (CW_X6_where (xs (i + 1)) (xs (i + 2)) (xs (i + 3)) M1 _ h1) yk_X6_where iv_X6_where ml_L_131 rfl shC_1 ⟨rfl, Nat.le_of_ble_eq_true rfl⟩ rfl (fun _ => rfl) (fun _ => rfl) (Nat.le_of_ble_eq_true rfl) rfl dL_law_1174 ?_
  refine tr_G.aload_n (i := 2) dL_law_1177 3 rfl rfl ?_
  refine tr_G.aload_n (i := 0) dL_law_1178 1 rfl rfl ?_
  refine tr_G.iload_n (i := 3) dL_law_1179 0 rfl rfl ?_
  refine tr_G.iconst (v := (1 : Int32)) dL_law_1180 (by decide) ?_
  refine tr_G.iadd dL_law_1181 ?_
  refine tr_G.sld (j := i + 1) dL_law_1182 (nI_add i 1) (by omega) (by omega) ?_
  refine tr_G.aload_n (i := 0) dL_law_1183 1 rfl rfl ?_
  refine tr_G.iload_n (i := 3) dL_law_1184 0 rfl rfl ?_
  refine tr_G.iconst (v := (2 : Int32)) dL_law_1185 (by decide) ?_
  refine tr_G.iadd dL_law_1186 ?_
  refine tr_G.sld (j := i + 2) dL_law_1187 (nI_add i 2) (by omega) (by omega) ?_
  refine tr_G.aload_n (i := 0) dL_law_1188 1 rfl rfl ?_
  refine tr_G.iload_n (i := 3) dL_law_1189 0 rfl rfl ?_
  refine tr_G.iconst (v := (3 : Int32)) dL_law_1190 (by decide) ?_
  refine tr_G.iadd dL_law_1191 ?_
  refine tr_G.sld (j := i + 3) dL_law_1192 (nI_add i 3) (by omega) (by omega) ?_
  refine tr_G.callM (CW_X7_where (xs (i + 1)) (xs (i + 2)) (xs (i + 3)) M2 _ h2) yk_X7_where iv_X7_where ml_L_134 rfl shM_1 ⟨rfl, Nat.le_of_ble_eq_true rfl⟩ rfl (fun _ => rfl) (fun _ => rfl) (Nat.le_of_ble_eq_true rfl) rfl dL_law_1193 ?_
  refine tr_G.icmp_eq (tgt := 1704) dL_law_1196 (by decide) ?_
  exact ih _ _ hI2
set_option maxRecDepth 100000 in
set_option maxHeartbeats 4000000 in
theorem law_29 {Inv : tr_M → tr_M → Prop} (hs : sm_places Inv) {b L B : Nat} {xs : Nat → Int32} {Wt : tr_GT} {i : Nat} {M1 M2 : tr_M} (hI : Inv M1 M2) (hi : i + 6 ≤ L) (hL : L ≤ 3072) (ih : ∀ N1 N2, Inv N1 N2 → tr_G b L xs B Wt 1704 [(3, .int (nI i)), (0, .ref b), (1, .ref (B + 1)), (2, .ref (B + 81 + 1))] [] N1 N2) : tr_G b L xs B Wt 1201 [(3, .int (nI i)), (0, .ref b), (1, .ref (B + 1)), (2, .ref (B + 81 + 1))] [] M1 M2 := by
  obtain ⟨r, N1, N2, h1, h2, hI2⟩ := hs M1 M2 (xs (i + 1)) (xs (i + 2)) hI
  refine tr_G.aload_n (i := 1) dL_law_1201 2 rfl rfl ?_
  refine tr_G.aload_n (i := 0) dL_law_1202 1 rfl rfl ?_
  refine tr_G.iload_n (i := 3) dL_law_1203 0 rfl rfl ?_
  refine tr_G.iconst (v := (1 : Int32)) dL_law_1204 (by decide) ?_
  refine tr_G.iadd dL_law_1205 ?_
  refine tr_G.sld (j := i + 1) dL_law_1206 (nI_add i 1) (by omega) (by omega) ?_
  refine tr_G.aload_n (i := 0) dL_law_1207 1 rfl rfl ?_
  refine tr_G.iload_n (i := 3) dL_law_1208 0 rfl rfl ?_
  refine tr_G.iconst (v := (2 : Int32)) dL_law_1209 (by decide) ?_
  refine tr_G.iadd dL_law_1210 ?_
  refine tr_G.sld (j := i + 2) dL_law_1211 (nI_add i 2) (by omega) (by omega) ?_
  refine tr_G.callX (CW_X6_places (xs (i + 1)) (xs (i + 2)) M1 _ h1) yk_X6_places iv_X6_places ml_L_135 rfl shC_1 ⟨rfl, Nat.le_of_ble_eq_true rfl⟩ rfl (fun _ => rfl) (fun _ => rfl) (Nat.le_of_ble_eq_true rfl) rfl dL_law_1212 ?_
  refine tr_G.aload_n (i := 2) dL_law_1215 3 rfl rfl ?_
  refine tr_G.aload_n (i := 0) dL_law_1216 1 rfl rfl ?_
  refine tr_G.iload_n (i := 3) dL_law_1217 0 rfl rfl ?_
  refine tr_G.iconst (v := (1 : Int32)) dL_law_1218 (by decide) ?_
  refine tr_G.iadd dL_law_1219 ?_
  refine tr_G.sld (j := i + 1) dL_law_1220 (nI_add i 1) (by omega) (by omega) ?_
  refine tr_G.aload_n (i := 0) dL_law_1221 1 rfl rfl ?_
  refine tr_G.iload_n (i := 3) dL_law_1222 0 rfl rfl ?_
  refine tr_G.iconst (v := (2 : Int32)) dL_law_1223 (by decide) ?_
  refine tr_G.iadd dL_law_1224 ?_
  refine tr_G.sld (j := i + 2) dL_law_1225 (nI_add i 2) (by omega) (by omega) ?_
  refine tr_G.callM (CW_X7_places (xs (i + 1)) (xs (i + 2)) M2 _ h2) yk_X7_places iv_X7_places ml_L_138 rfl shM_1 ⟨rfl, Nat.le_of_ble_eq_true rfl⟩ rfl (fun _ => rfl) (fun _ => rfl) (Nat.le_of_ble_eq_true rfl) rfl dL_law_1226 ?_
  refine tr_G.icmp_eq (tgt := 1704) dL_law_1229 (by decide) ?_
  exact ih _ _ hI2
set_option maxRecDepth 100000 in
set_option maxHeartbeats 4000000 in
theorem law_30 {Inv : tr_M → tr_M → Prop} (hs : sm_middle Inv) {b L B : Nat} {xs : Nat → Int32} {Wt : tr_GT} {i : Nat} {M1 M2 : tr_M} (hI : Inv M1 M2) (hi : i + 6 ≤ L) (hL : L ≤ 3072) (ih : ∀ N1 N2, Inv N1 N2 → tr_G b L xs B Wt 1704 [(3, .int (nI i)), (0, .ref b), (1, .ref (B + 1)), (2, .ref (B + 81 + 1))] [] N1 N2) : tr_G b L xs B Wt 1234 [(3, .int (nI i)), (0, .ref b), (1, .ref (B + 1)), (2, .ref (B + 81 + 1))] [] M1 M2 := by
  obtain ⟨r, N1, N2, h1, h2, hI2⟩ := hs M1 M2 (xs (i + 1)) (xs (i + 2)) hI
  refine tr_G.aload_n (i := 1) dL_law_1234 2 rfl rfl ?_
  refine tr_G.aload_n (i := 0) dL_law_1235 1 rfl rfl ?_
  refine tr_G.iload_n (i := 3) dL_law_1236 0 rfl rfl ?_
  refine tr_G.iconst (v := (1 : Int32)) dL_law_1237 (by decide) ?_
  refine tr_G.iadd dL_law_1238 ?_
  refine tr_G.sld (j := i + 1) dL_law_1239 (nI_add i 1) (by omega) (by omega) ?_
  refine tr_G.aload_n (i := 0) dL_law_1240 1 rfl rfl ?_
  refine tr_G.iload_n (i := 3) dL_law_1241 0 rfl rfl ?_
  refine tr_G.iconst (v := (2 : Int32)) dL_law_1242 (by decide) ?_
  refine tr_G.iadd dL_law_1243 ?_
  refine tr_G.sld (j := i + 2) dL_law_1244 (nI_add i 2) (by omega) (by omega) ?_
  refine tr_G.callX (CW_X6_middle (xs (i + 1)) (xs (i + 2)) M1 _ h1) yk_X6_middle iv_X6_middle ml_L_139 rfl shC_1 ⟨rfl, Nat.le_of_ble_eq_true rfl⟩ rfl (fun _ => rfl) (fun _ => rfl) (Nat.le_of_ble_eq_true rfl) rfl dL_law_1245 ?_
  refine tr_G.aload_n (i := 2) dL_law_1248 3 rfl rfl ?_
  refine tr_G.aload_n (i := 0) dL_law_1249 1 rfl rfl ?_
  refine tr_G.iload_n (i := 3) dL_law_1250 0 rfl rfl ?_
  refine tr_G.iconst (v := (1 : Int32)) dL_law_1251 (by decide) ?_
  refine tr_G.iadd dL_law_1252 ?_
  refine tr_G.sld (j := i + 1) dL_law_1253 (nI_add i 1) (by omega) (by omega) ?_
  refine tr_G.aload_n (i := 0) dL_law_1254 1 rfl rfl ?_
  refine tr_G.iload_n (i := 3) dL_law_1255 0 rfl rfl ?_
  refine tr_G.iconst (v := (2 : Int32)) dL_law_1256 (by decide) ?_
  refine tr_G.iadd dL_law_1257 ?_
  refine tr_G.sld (j := i + 2) dL_law_1258 (nI_add i 2) (by omega) (by omega) ?_
  refine tr_G.callM (CW_X7_middle (xs (i + 1)) (xs (i + 2)) M2 _ h2) yk_X7_middle iv_X7_middle ml_L_142 rfl shM_1 ⟨rfl, Nat.le_of_ble_eq_true rfl⟩ rfl (fun _ => rfl) (fun _ => rfl) (Nat.le_of_ble_eq_true rfl) rfl dL_law_1259 ?_
  refine tr_G.icmp_eq (tgt := 1704) dL_law_1262 (by decide) ?_
  exact ih _ _ hI2
set_option maxRecDepth 100000 in
set_option maxHeartbeats 4000000 in
theorem law_31 {Inv : tr_M → tr_M → Prop} (hs : sm_leads Inv) {b L B : Nat} {xs : Nat → Int32} {Wt : tr_GT} {i : Nat} {M1 M2 : tr_M} (hI : Inv M1 M2) (hi : i + 6 ≤ L) (hL : L ≤ 3072) (ih : ∀ N1 N2, Inv N1 N2 → tr_G b L xs B Wt 1704 [(3, .int (nI i)), (0, .ref b), (1, .ref (B + 1)), (2, .ref (B + 81 + 1))] [] N1 N2) : tr_G b L xs B Wt 1267 [(3, .int (nI i)), (0, .ref b), (1, .ref (B + 1)), (2, .ref (B + 81 + 1))] [] M1 M2 := by
  obtain ⟨r, N1, N2, h1, h2, hI2⟩ := hs M1 M2 (xs (i + 1)) (xs (i + 2)) (xs (i + 3)) hI
  refine tr_G.aload_n (i := 1) dL_law_1267 2 rfl rfl ?_
  refine tr_G.aload_n (i := 0) dL_law_1268 1 rfl rfl ?_
  refine tr_G.iload_n (i := 3) dL_law_1269 0 rfl rfl ?_
  refine tr_G.iconst (v := (1 : Int32)) dL_law_1270 (by decide) ?_
  refine tr_G.iadd dL_law_1271 ?_
  refine tr_G.sld (j := i + 1) dL_law_1272 (nI_add i 1) (by omega) (by omega) ?_
  refine tr_G.aload_n (i := 0) dL_law_1273 1 rfl rfl ?_
  refine tr_G.iload_n (i := 3) dL_law_1274 0 rfl rfl ?_
  refine tr_G.iconst (v := (2 : Int32)) dL_law_1275 (by decide) ?_
  refine tr_G.iadd dL_law_1276 ?_
  refine tr_G.sld (j := i + 2) dL_law_1277 (nI_add i 2) (by omega) (by omega) ?_
  refine tr_G.aload_n (i := 0) dL_law_1278 1 rfl rfl ?_
  refine tr_G.iload_n (i := 3) dL_law_1279 0 rfl rfl ?_
  refine tr_G.iconst (v := (3 : Int32)) dL_law_1280 (by decide) ?_
  refine tr_G.iadd dL_law_1281 ?_
  refine tr_G.sld (j := i + 3) dL_law_1282 (nI_add i 3) (by omega) (by omega) ?_
  refine tr_G.callX (CW_X6_leads (xs (i + 1)) (xs (i + 2)) (xs (i + 3)) M1 _ h1) yk_X6_leads iv_X6_leads ml_L_143 rfl shC_1 ⟨rfl, Nat.le_of_ble_eq_true rfl⟩ rfl (fun _ => rfl) (fun _ => rfl) (Nat.le_of_ble_eq_true rfl) rfl dL_law_1283 ?_
  refine tr_G.aload_n (i := 2) dL_law_1286 3 rfl rfl ?_
  refine tr_G.aload_n (i := 0) dL_law_1287 1 rfl rfl ?_
  refine tr_G.iload_n (i := 3) dL_law_1288 0 rfl rfl ?_
  refine tr_G.iconst (v := (1 : Int32)) dL_law_1289 (by decide) ?_
  refine tr_G.iadd dL_law_1290 ?_
  refine tr_G.sld (j := i + 1) dL_law_1291 (nI_add i 1) (by omega) (by omega) ?_
  refine tr_G.aload_n (i := 0) dL_law_1292 1 rfl rfl ?_
  refine tr_G.iload_n (i := 3) dL_law_1293 0 rfl rfl ?_
  refine tr_G.iconst (v := (2 : Int32)) dL_law_1294 (by decide) ?_
  refine tr_G.iadd dL_law_1295 ?_
  refine tr_G.sld (j := i + 2) dL_law_1296 (nI_add i 2) (by omega) (by omega) ?_
  refine tr_G.aload_n (i := 0) dL_law_1297 1 rfl rfl ?_
  refine tr_G.iload_n (i := 3) dL_law_1298 0 rfl rfl ?_
  refine tr_G.iconst (v := (3 : Int32)) dL_law_1299 (by decide) ?_
  refine tr_G.iadd dL_law_1300 ?_
  refine tr_G.sld (j := i + 3) dL_law_1301 (nI_add i 3) (by omega) (by omega) ?_
  refine tr_G.callM (CW_X7_leads (xs (i + 1)) (xs (i + 2)) (xs (i + 3)) M2 _ h2) yk_X7_leads iv_X7_leads ml_L_146 rfl shM_1 ⟨rfl, Nat.le_of_ble_eq_true rfl⟩ rfl (fun _ => rfl) (fun _ => rfl) (Nat.le_of_ble_eq_true rfl) rfl dL_law_1302 ?_
  refine tr_G.icmp_eq (tgt := 1704) dL_law_1305 (by decide) ?_
  exact ih _ _ hI2
set_option maxRecDepth 100000 in
set_option maxHeartbeats 4000000 in
theorem law_32 {Inv : tr_M → tr_M → Prop} (hs : sm_both Inv) {b L B : Nat} {xs : Nat → Int32} {Wt : tr_GT} {i : Nat} {M1 M2 : tr_M} (hI : Inv M1 M2) (hi : i + 6 ≤ L) (hL : L ≤ 3072) (ih : ∀ N1 N2, Inv N1 N2 → tr_G b L xs B Wt 1704 [(3, .int (nI i)), (0, .ref b), (1, .ref (B + 1)), (2, .ref (B + 81 + 1))] [] N1 N2) : tr_G b L xs B Wt 1310 [(3, .int (nI i)), (0, .ref b), (1, .ref (B + 1)), (2, .ref (B + 81 + 1))] [] M1 M2 := by
  obtain ⟨r, N1, N2, h1, h2, hI2⟩ := hs M1 M2 (xs (i + 1)) (xs (i + 2)) hI
  refine tr_G.aload_n (i := 1) dL_law_1310 2 rfl rfl ?_
  refine tr_G.aload_n (i := 0) dL_law_1311 1 rfl rfl ?_
  refine tr_G.iload_n (i := 3) dL_law_1312 0 rfl rfl ?_
  refine tr_G.iconst (v := (1 : Int32)) dL_law_1313 (by decide) ?_
  refine tr_G.iadd dL_law_1314 ?_
  refine tr_G.sld (j := i + 1) dL_law_1315 (nI_add i 1) (by omega) (by omega) ?_
  refine tr_G.aload_n (i := 0) dL_law_1316 1 rfl rfl ?_
  refine tr_G.iload_n (i := 3) dL_law_1317 0 rfl rfl ?_
  refine tr_G.iconst (v := (2 : Int32)) dL_law_1318 (by decide) ?_
  refine tr_G.iadd dL_law_1319 ?_
  refine tr_G.sld (j := i + 2) dL_law_1320 (nI_add i 2) (by omega) (by omega) ?_
  refine tr_G.callX (CW_X6_both (xs (i + 1)) (xs (i + 2)) M1 _ h1) yk_X6_both iv_X6_both ml_L_147 rfl shC_1 ⟨rfl, Nat.le_of_ble_eq_true rfl⟩ rfl (fun _ => rfl) (fun _ => rfl) (Nat.le_of_ble_eq_true rfl) rfl dL_law_1321 ?_
  refine tr_G.aload_n (i := 2) dL_law_1324 3 rfl rfl ?_
  refine tr_G.aload_n (i := 0) dL_law_1325 1 rfl rfl ?_
  refine tr_G.iload_n (i := 3) dL_law_1326 0 rfl rfl ?_
  refine tr_G.iconst (v := (1 : Int32)) dL_law_1327 (by decide) ?_
  refine tr_G.iadd dL_law_1328 ?_
  refine tr_G.sld (j := i + 1) dL_law_1329 (nI_add i 1) (by omega) (by omega) ?_
  refine tr_G.aload_n (i := 0) dL_law_1330 1 rfl rfl ?_
  refine tr_G.iload_n (i := 3) dL_law_1331 0 rfl rfl ?_
  refine tr_G.iconst (v := (2 : Int32)) dL_law_1332 (by decide) ?_
  refine tr_G.iadd dL_law_1333 ?_
  refine tr_G.sld (j := i + 2) dL_law_1334 (nI_add i 2) (by omega) (by omega) ?_
  refine tr_G.callM (CW_X7_both (xs (i + 1)) (xs (i + 2)) M2 _ h2) yk_X7_both iv_X7_both ml_L_150 rfl shM_1 ⟨rfl, Nat.le_of_ble_eq_true rfl⟩ rfl (fun _ => rfl) (fun _ => rfl) (Nat.le_of_ble_eq_true rfl) rfl dL_law_1335 ?_
  refine tr_G.icmp_eq (tgt := 1704) dL_law_1338 (by decide) ?_
  exact ih _ _ hI2
set_option maxRecDepth 100000 in
set_option maxHeartbeats 4000000 in
theorem law_33 {Inv : tr_M → tr_M → Prop} (hs : sm_must Inv) {b L B : Nat} {xs : Nat → Int32} {Wt : tr_GT} {i : Nat} {M1 M2 : tr_M} (hI : Inv M1 M2) (hi : i + 6 ≤ L) (hL : L ≤ 3072) (ih : ∀ N1 N2, Inv N1 N2 → tr_G b L xs B Wt 1704 [(3, .int (nI i)), (0, .ref b), (1, .ref (B + 1)), (2, .ref (B + 81 + 1))] [] N1 N2) : tr_G b L xs B Wt 1343 [(3, .int (nI i)), (0, .ref b), (1, .ref (B + 1)), (2, .ref (B + 81 + 1))] [] M1 M2 := by
  obtain ⟨r, N1, N2, h1, h2, hI2⟩ := hs M1 M2 hI
  refine tr_G.aload_n (i := 1) dL_law_1343 2 rfl rfl ?_
  refine tr_G.callX (CW_X6_must M1 _ h1) yk_X6_must iv_X6_must ml_L_151 rfl shC_1 ⟨rfl, Nat.le_of_ble_eq_true rfl⟩ rfl (fun _ => rfl) (fun _ => rfl) (Nat.le_of_ble_eq_true rfl) rfl dL_law_1344 ?_
  refine tr_G.aload_n (i := 2) dL_law_1347 3 rfl rfl ?_
  refine tr_G.callM (CW_X7_must M2 _ h2) yk_X7_must iv_X7_must ml_L_154 rfl shM_1 ⟨rfl, Nat.le_of_ble_eq_true rfl⟩ rfl (fun _ => rfl) (fun _ => rfl) (Nat.le_of_ble_eq_true rfl) rfl dL_law_1348 ?_
  refine tr_G.icmp_eq (tgt := 1704) dL_law_1351 (by decide) ?_
  exact ih _ _ hI2
set_option maxRecDepth 100000 in
set_option maxHeartbeats 4000000 in
theorem law_34 {Inv : tr_M → tr_M → Prop} (hs : sm_swaps Inv) {b L B : Nat} {xs : Nat → Int32} {Wt : tr_GT} {i : Nat} {M1 M2 : tr_M} (hI : Inv M1 M2) (hi : i + 6 ≤ L) (hL : L ≤ 3072) (ih : ∀ N1 N2, Inv N1 N2 → tr_G b L xs B Wt 1704 [(3, .int (nI i)), (0, .ref b), (1, .ref (B + 1)), (2, .ref (B + 81 + 1))] [] N1 N2) : tr_G b L xs B Wt 1356 [(3, .int (nI i)), (0, .ref b), (1, .ref (B + 1)), (2, .ref (B + 81 + 1))] [] M1 M2 := by
  obtain ⟨r, N1, N2, h1, h2, hI2⟩ := hs M1 M2 (xs (i + 1)) (xs (i + 2)) hI
  refine tr_G.aload_n (i := 1) dL_law_1356 2 rfl rfl ?_
  refine tr_G.aload_n (i := 0) dL_law_1357 1 rfl rfl ?_
  refine tr_G.iload_n (i := 3) dL_law_1358 0 rfl rfl ?_
  refine tr_G.iconst (v := (1 : Int32)) dL_law_1359 (by decide) ?_
  refine tr_G.iadd dL_law_1360 ?_
  refine tr_G.sld (j := i + 1) dL_law_1361 (nI_add i 1) (by omega) (by omega) ?_
  refine tr_G.aload_n (i := 0) dL_law_1362 1 rfl rfl ?_
  refine tr_G.iload_n (i := 3) dL_law_1363 0 rfl rfl ?_
  refine tr_G.iconst (v := (2 : Int32)) dL_law_1364 (by decide) ?_
  refine tr_G.iadd dL_law_1365 ?_
  refine tr_G.sld (j := i + 2) dL_law_1366 (nI_add i 2) (by omega) (by omega) ?_
  refine tr_G.callX (CW_X6_swaps (xs (i + 1)) (xs (i + 2)) M1 _ h1) yk_X6_swaps iv_X6_swaps ml_L_155 rfl shC_1 ⟨rfl, Nat.le_of_ble_eq_true rfl⟩ rfl (fun _ => rfl) (fun _ => rfl) (Nat.le_of_ble_eq_true rfl) rfl dL_law_1367 ?_
  refine tr_G.aload_n (i := 2) dL_law_1370 3 rfl rfl ?_
  refine tr_G.aload_n (i := 0) dL_law_1371 1 rfl rfl ?_
  refine tr_G.iload_n (i := 3) dL_law_1372 0 rfl rfl ?_
  refine tr_G.iconst (v := (1 : Int32)) dL_law_1373 (by decide) ?_
  refine tr_G.iadd dL_law_1374 ?_
  refine tr_G.sld (j := i + 1) dL_law_1375 (nI_add i 1) (by omega) (by omega) ?_
  refine tr_G.aload_n (i := 0) dL_law_1376 1 rfl rfl ?_
  refine tr_G.iload_n (i := 3) dL_law_1377 0 rfl rfl ?_
  refine tr_G.iconst (v := (2 : Int32)) dL_law_1378 (by decide) ?_
  refine tr_G.iadd dL_law_1379 ?_
  refine tr_G.sld (j := i + 2) dL_law_1380 (nI_add i 2) (by omega) (by omega) ?_
  refine tr_G.callM (CW_X7_swaps (xs (i + 1)) (xs (i + 2)) M2 _ h2) yk_X7_swaps iv_X7_swaps ml_L_158 rfl shM_1 ⟨rfl, Nat.le_of_ble_eq_true rfl⟩ rfl (fun _ => rfl) (fun _ => rfl) (Nat.le_of_ble_eq_true rfl) rfl dL_law_1381 ?_
  refine tr_G.icmp_eq (tgt := 1704) dL_law_1384 (by decide) ?_
  exact ih _ _ hI2
set_option maxRecDepth 100000 in
set_option maxHeartbeats 4000000 in
theorem law_35 {Inv : tr_M → tr_M → Prop} (hs : sm_moves Inv) {b L B : Nat} {xs : Nat → Int32} {Wt : tr_GT} {i : Nat} {M1 M2 : tr_M} (hI : Inv M1 M2) (hi : i + 6 ≤ L) (hL : L ≤ 3072) (ih : ∀ N1 N2, Inv N1 N2 → tr_G b L xs B Wt 1704 [(3, .int (nI i)), (0, .ref b), (1, .ref (B + 1)), (2, .ref (B + 81 + 1))] [] N1 N2) : tr_G b L xs B Wt 1389 [(3, .int (nI i)), (0, .ref b), (1, .ref (B + 1)), (2, .ref (B + 81 + 1))] [] M1 M2 := by
  obtain ⟨r, N1, N2, h1, h2, hI2⟩ := hs M1 M2 (xs (i + 1)) (xs (i + 2)) hI
  refine tr_G.aload_n (i := 1) dL_law_1389 2 rfl rfl ?_
  refine tr_G.aload_n (i := 0) dL_law_1390 1 rfl rfl ?_
  refine tr_G.iload_n (i := 3) dL_law_1391 0 rfl rfl ?_
  refine tr_G.iconst (v := (1 : Int32)) dL_law_1392 (by decide) ?_
  refine tr_G.iadd dL_law_1393 ?_
  refine tr_G.sld (j := i + 1) dL_law_1394 (nI_add i 1) (by omega) (by omega) ?_
  refine tr_G.aload_n (i := 0) dL_law_1395 1 rfl rfl ?_
  refine tr_G.iload_n (i := 3) dL_law_1396 0 rfl rfl ?_
  refine tr_G.iconst (v := (2 : Int32)) dL_law_1397 (by decide) ?_
  refine tr_G.iadd dL_law_1398 ?_
  refine tr_G.sld (j := i + 2) dL_law_1399 (nI_add i 2) (by omega) (by omega) ?_
  refine tr_G.callX (CW_X6_moves (xs (i + 1)) (xs (i + 2)) M1 _ h1) yk_X6_moves iv_X6_moves ml_L_159 rfl shC_1 ⟨rfl, Nat.le_of_ble_eq_true rfl⟩ rfl (fun _ => rfl) (fun _ => rfl) (Nat.le_of_ble_eq_true rfl) rfl dL_law_1400 ?_
  refine tr_G.aload_n (i := 2) dL_law_1403 3 rfl rfl ?_
  refine tr_G.aload_n (i := 0) dL_law_1404 1 rfl rfl ?_
  refine tr_G.iload_n (i := 3) dL_law_1405 0 rfl rfl ?_
  refine tr_G.iconst (v := (1 : Int32)) dL_law_1406 (by decide) ?_
  refine tr_G.iadd dL_law_1407 ?_
  refine tr_G.sld (j := i + 1) dL_law_1408 (nI_add i 1) (by omega) (by omega) ?_
  refine tr_G.aload_n (i := 0) dL_law_1409 1 rfl rfl ?_
  refine tr_G.iload_n (i := 3) dL_law_1410 0 rfl rfl ?_
  refine tr_G.iconst (v := (2 : Int32)) dL_law_1411 (by decide) ?_
  refine tr_G.iadd dL_law_1412 ?_
  refine tr_G.sld (j := i + 2) dL_law_1413 (nI_add i 2) (by omega) (by omega) ?_
  refine tr_G.callM (CW_X7_moves (xs (i + 1)) (xs (i + 2)) M2 _ h2) yk_X7_moves iv_X7_moves ml_L_162 rfl shM_1 ⟨rfl, Nat.le_of_ble_eq_true rfl⟩ rfl (fun _ => rfl) (fun _ => rfl) (Nat.le_of_ble_eq_true rfl) rfl dL_law_1414 ?_
  refine tr_G.icmp_eq (tgt := 1704) dL_law_1417 (by decide) ?_
  exact ih _ _ hI2
set_option maxRecDepth 100000 in
set_option maxHeartbeats 4000000 in
theorem law_36 {Inv : tr_M → tr_M → Prop} (hs : sm_apart Inv) {b L B : Nat} {xs : Nat → Int32} {Wt : tr_GT} {i : Nat} {M1 M2 : tr_M} (hI : Inv M1 M2) (hi : i + 6 ≤ L) (hL : L ≤ 3072) (ih : ∀ N1 N2, Inv N1 N2 → tr_G b L xs B Wt 1704 [(3, .int (nI i)), (0, .ref b), (1, .ref (B + 1)), (2, .ref (B + 81 + 1))] [] N1 N2) : tr_G b L xs B Wt 1422 [(3, .int (nI i)), (0, .ref b), (1, .ref (B + 1)), (2, .ref (B + 81 + 1))] [] M1 M2 := by
  obtain ⟨r, N1, N2, h1, h2, hI2⟩ := hs M1 M2 (xs (i + 1)) (xs (i + 2)) hI
  refine tr_G.aload_n (i := 1) dL_law_1422 2 rfl rfl ?_
  refine tr_G.aload_n (i := 0) dL_law_1423 1 rfl rfl ?_
  refine tr_G.iload_n (i := 3) dL_law_1424 0 rfl rfl ?_
  refine tr_G.iconst (v := (1 : Int32)) dL_law_1425 (by decide) ?_
  refine tr_G.iadd dL_law_1426 ?_
  refine tr_G.sld (j := i + 1) dL_law_1427 (nI_add i 1) (by omega) (by omega) ?_
  refine tr_G.aload_n (i := 0) dL_law_1428 1 rfl rfl ?_
  refine tr_G.iload_n (i := 3) dL_law_1429 0 rfl rfl ?_
  refine tr_G.iconst (v := (2 : Int32)) dL_law_1430 (by decide) ?_
  refine tr_G.iadd dL_law_1431 ?_
  refine tr_G.sld (j := i + 2) dL_law_1432 (nI_add i 2) (by omega) (by omega) ?_
  refine tr_G.callX (CW_X6_apart (xs (i + 1)) (xs (i + 2)) M1 _ h1) yk_X6_apart iv_X6_apart ml_L_163 rfl shC_1 ⟨rfl, Nat.le_of_ble_eq_true rfl⟩ rfl (fun _ => rfl) (fun _ => rfl) (Nat.le_of_ble_eq_true rfl) rfl dL_law_1433 ?_
  refine tr_G.aload_n (i := 2) dL_law_1436 3 rfl rfl ?_
  refine tr_G.aload_n (i := 0) dL_law_1437 1 rfl rfl ?_
  refine tr_G.iload_n (i := 3) dL_law_1438 0 rfl rfl ?_
  refine tr_G.iconst (v := (1 : Int32)) dL_law_1439 (by decide) ?_
  refine tr_G.iadd dL_law_1440 ?_
  refine tr_G.sld (j := i + 1) dL_law_1441 (nI_add i 1) (by omega) (by omega) ?_
  refine tr_G.aload_n (i := 0) dL_law_1442 1 rfl rfl ?_
  refine tr_G.iload_n (i := 3) dL_law_1443 0 rfl rfl ?_
  refine tr_G.iconst (v := (2 : Int32)) dL_law_1444 (by decide) ?_
  refine tr_G.iadd dL_law_1445 ?_
  refine tr_G.sld (j := i + 2) dL_law_1446 (nI_add i 2) (by omega) (by omega) ?_
  refine tr_G.callM (CW_X7_apart (xs (i + 1)) (xs (i + 2)) M2 _ h2) yk_X7_apart iv_X7_apart ml_L_166 rfl shM_1 ⟨rfl, Nat.le_of_ble_eq_true rfl⟩ rfl (fun _ => rfl) (fun _ => rfl) (Nat.le_of_ble_eq_true rfl) rfl dL_law_1447 ?_
  refine tr_G.icmp_eq (tgt := 1704) dL_law_1450 (by decide) ?_
  exact ih _ _ hI2
set_option maxRecDepth 100000 in
set_option maxHeartbeats 4000000 in
theorem law_37 {Inv : tr_M → tr_M → Prop} (hs : sm_draw Inv) {b L B : Nat} {xs : Nat → Int32} {Wt : tr_GT} {i : Nat} {M1 M2 : tr_M} (hI : Inv M1 M2) (hi : i + 6 ≤ L) (hL : L ≤ 3072) (ih : ∀ N1 N2, Inv N1 N2 → tr_G b L xs B Wt 1704 [(3, .int (nI i)), (0, .ref b), (1, .ref (B + 1)), (2, .ref (B + 81 + 1))] [] N1 N2) : tr_G b L xs B Wt 1455 [(3, .int (nI i)), (0, .ref b), (1, .ref (B + 1)), (2, .ref (B + 81 + 1))] [] M1 M2 := by
  obtain ⟨r, N1, N2, h1, h2, hI2⟩ := hs M1 M2 (xs (i + 1)) (xs (i + 2)) hI
  refine tr_G.aload_n (i := 1) dL_law_1455 2 rfl rfl ?_
  refine tr_G.aload_n (i := 0) dL_law_1456 1 rfl rfl ?_
  refine tr_G.iload_n (i := 3) dL_law_1457 0 rfl rfl ?_
  refine tr_G.iconst (v := (1 : Int32)) dL_law_1458 (by decide) ?_
  refine tr_G.iadd dL_law_1459 ?_
  refine tr_G.sld (j := i + 1) dL_law_1460 (nI_add i 1) (by omega) (by omega) ?_
  refine tr_G.aload_n (i := 0) dL_law_1461 1 rfl rfl ?_
  refine tr_G.iload_n (i := 3) dL_law_1462 0 rfl rfl ?_
  refine tr_G.iconst (v := (2 : Int32)) dL_law_1463 (by decide) ?_
  refine tr_G.iadd dL_law_1464 ?_
  refine tr_G.sld (j := i + 2) dL_law_1465 (nI_add i 2) (by omega) (by omega) ?_
  refine tr_G.callX (CW_X6_draw (xs (i + 1)) (xs (i + 2)) M1 _ h1) yk_X6_draw iv_X6_draw ml_L_167 rfl shC_1 ⟨rfl, Nat.le_of_ble_eq_true rfl⟩ rfl (fun _ => rfl) (fun _ => rfl) (Nat.le_of_ble_eq_true rfl) rfl dL_law_1466 ?_
  refine tr_G.aload_n (i := 2) dL_law_1469 3 rfl rfl ?_
  refine tr_G.aload_n (i := 0) dL_law_1470 1 rfl rfl ?_
  refine tr_G.iload_n (i := 3) dL_law_1471 0 rfl rfl ?_
  refine tr_G.iconst (v := (1 : Int32)) dL_law_1472 (by decide) ?_
  refine tr_G.iadd dL_law_1473 ?_
  refine tr_G.sld (j := i + 1) dL_law_1474 (nI_add i 1) (by omega) (by omega) ?_
  refine tr_G.aload_n (i := 0) dL_law_1475 1 rfl rfl ?_
  refine tr_G.iload_n (i := 3) dL_law_1476 0 rfl rfl ?_
  refine tr_G.iconst (v := (2 : Int32)) dL_law_1477 (by decide) ?_
  refine tr_G.iadd dL_law_1478 ?_
  refine tr_G.sld (j := i + 2) dL_law_1479 (nI_add i 2) (by omega) (by omega) ?_
  refine tr_G.callM (CW_X7_draw (xs (i + 1)) (xs (i + 2)) M2 _ h2) yk_X7_draw iv_X7_draw ml_L_170 rfl shM_1 ⟨rfl, Nat.le_of_ble_eq_true rfl⟩ rfl (fun _ => rfl) (fun _ => rfl) (Nat.le_of_ble_eq_true rfl) rfl dL_law_1480 ?_
  refine tr_G.icmp_eq (tgt := 1704) dL_law_1483 (by decide) ?_
  exact ih _ _ hI2
set_option maxRecDepth 100000 in
set_option maxHeartbeats 4000000 in
theorem law_38 {Inv : tr_M → tr_M → Prop} (hs : sm_lots Inv) {b L B : Nat} {xs : Nat → Int32} {Wt : tr_GT} {i : Nat} {M1 M2 : tr_M} (hI : Inv M1 M2) (hi : i + 6 ≤ L) (hL : L ≤ 3072) (ih : ∀ N1 N2, Inv N1 N2 → tr_G b L xs B Wt 1704 [(3, .int (nI i)), (0, .ref b), (1, .ref (B + 1)), (2, .ref (B + 81 + 1))] [] N1 N2) : tr_G b L xs B Wt 1488 [(3, .int (nI i)), (0, .ref b), (1, .ref (B + 1)), (2, .ref (B + 81 + 1))] [] M1 M2 := by
  obtain ⟨r, N1, N2, h1, h2, hI2⟩ := hs M1 M2 (xs (i + 1)) (xs (i + 2)) (xs (i + 3)) hI
  refine tr_G.aload_n (i := 1) dL_law_1488 2 rfl rfl ?_
  refine tr_G.aload_n (i := 0) dL_law_1489 1 rfl rfl ?_
  refine tr_G.iload_n (i := 3) dL_law_1490 0 rfl rfl ?_
  refine tr_G.iconst (v := (1 : Int32)) dL_law_1491 (by decide) ?_
  refine tr_G.iadd dL_law_1492 ?_
  refine tr_G.sld (j := i + 1) dL_law_1493 (nI_add i 1) (by omega) (by omega) ?_
  refine tr_G.aload_n (i := 0) dL_law_1494 1 rfl rfl ?_
  refine tr_G.iload_n (i := 3) dL_law_1495 0 rfl rfl ?_
  refine tr_G.iconst (v := (2 : Int32)) dL_law_1496 (by decide) ?_
  refine tr_G.iadd dL_law_1497 ?_
  refine tr_G.sld (j := i + 2) dL_law_1498 (nI_add i 2) (by omega) (by omega) ?_
  refine tr_G.aload_n (i := 0) dL_law_1499 1 rfl rfl ?_
  refine tr_G.iload_n (i := 3) dL_law_1500 0 rfl rfl ?_
  refine tr_G.iconst (v := (3 : Int32)) dL_law_1501 (by decide) ?_
  refine tr_G.iadd dL_law_1502 ?_
  refine tr_G.sld (j := i + 3) dL_law_1503 (nI_add i 3) (by omega) (by omega) ?_
  refine tr_G.callX (CW_X6_lots (xs (i + 1)) (xs (i + 2)) (xs (i + 3)) M1 _ h1) yk_X6_lots iv_X6_lots ml_L_171 rfl shC_1 ⟨rfl, Nat.le_of_ble_eq_true rfl⟩ rfl (fun _ => rfl) (fun _ => rfl) (Nat.le_of_ble_eq_true rfl) rfl dL_law_1504 ?_
  refine tr_G.aload_n (i := 2) dL_law_1507 3 rfl rfl ?_
  refine tr_G.aload_n (i := 0) dL_law_1508 1 rfl rfl ?_
  refine tr_G.iload_n (i := 3) dL_law_1509 0 rfl rfl ?_
  refine tr_G.iconst (v := (1 : Int32)) dL_law_1510 (by decide) ?_
  refine tr_G.iadd dL_law_1511 ?_
  refine tr_G.sld (j := i + 1) dL_law_1512 (nI_add i 1) (by omega) (by omega) ?_
  refine tr_G.aload_n (i := 0) dL_law_1513 1 rfl rfl ?_
  refine tr_G.iload_n (i := 3) dL_law_1514 0 rfl rfl ?_
  refine tr_G.iconst (v := (2 : Int32)) dL_law_1515 (by decide) ?_
  refine tr_G.iadd dL_law_1516 ?_
  refine tr_G.sld (j := i + 2) dL_law_1517 (nI_add i 2) (by omega) (by omega) ?_
  refine tr_G.aload_n (i := 0) dL_law_1518 1 rfl rfl ?_
  refine tr_G.iload_n (i := 3) dL_law_1519 0 rfl rfl ?_
  refine tr_G.iconst (v := (3 : Int32)) dL_law_1520 (by decide) ?_
  refine tr_G.iadd dL_law_1521 ?_
  refine tr_G.sld (j := i + 3) dL_law_1522 (nI_add i 3) (by omega) (by omega) ?_
  refine tr_G.callM (CW_X7_lots (xs (i + 1)) (xs (i + 2)) (xs (i + 3)) M2 _ h2) yk_X7_lots iv_X7_lots ml_L_174 rfl shM_1 ⟨rfl, Nat.le_of_ble_eq_true rfl⟩ rfl (fun _ => rfl) (fun _ => rfl) (Nat.le_of_ble_eq_true rfl) rfl dL_law_1523 ?_
  refine tr_G.icmp_eq (tgt := 1704) dL_law_1526 (by decide) ?_
  exact ih _ _ hI2
set_option maxRecDepth 100000 in
set_option maxHeartbeats 4000000 in
theorem law_39 {Inv : tr_M → tr_M → Prop} (hs : sm_average Inv) {b L B : Nat} {xs : Nat → Int32} {Wt : tr_GT} {i : Nat} {M1 M2 : tr_M} (hI : Inv M1 M2) (hi : i + 6 ≤ L) (hL : L ≤ 3072) (ih : ∀ N1 N2, Inv N1 N2 → tr_G b L xs B Wt 1704 [(3, .int (nI i)), (0, .ref b), (1, .ref (B + 1)), (2, .ref (B + 81 + 1))] [] N1 N2) : tr_G b L xs B Wt 1531 [(3, .int (nI i)), (0, .ref b), (1, .ref (B + 1)), (2, .ref (B + 81 + 1))] [] M1 M2 := by
  obtain ⟨r, N1, N2, h1, h2, hI2⟩ := hs M1 M2 hI
  refine tr_G.aload_n (i := 1) dL_law_1531 2 rfl rfl ?_
  refine tr_G.callX (CW_X6_average M1 _ h1) yk_X6_average iv_X6_average ml_L_175 rfl shC_1 ⟨rfl, Nat.le_of_ble_eq_true rfl⟩ rfl (fun _ => rfl) (fun _ => rfl) (Nat.le_of_ble_eq_true rfl) rfl dL_law_1532 ?_
  refine tr_G.aload_n (i := 2) dL_law_1535 3 rfl rfl ?_
  refine tr_G.callM (CW_X7_average M2 _ h2) yk_X7_average iv_X7_average ml_L_178 rfl shM_1 ⟨rfl, Nat.le_of_ble_eq_true rfl⟩ rfl (fun _ => rfl) (fun _ => rfl) (Nat.le_of_ble_eq_true rfl) rfl dL_law_1536 ?_
  refine tr_G.icmp_eq (tgt := 1704) dL_law_1539 (by decide) ?_
  exact ih _ _ hI2
set_option maxRecDepth 100000 in
set_option maxHeartbeats 4000000 in
theorem law_40 {Inv : tr_M → tr_M → Prop} (hs : sm_image Inv) {b L B : Nat} {xs : Nat → Int32} {Wt : tr_GT} {i : Nat} {M1 M2 : tr_M} (hI : Inv M1 M2) (hi : i + 6 ≤ L) (hL : L ≤ 3072) (ih : ∀ N1 N2, Inv N1 N2 → tr_G b L xs B Wt 1704 [(3, .int (nI i)), (0, .ref b), (1, .ref (B + 1)), (2, .ref (B + 81 + 1))] [] N1 N2) : tr_G b L xs B Wt 1544 [(3, .int (nI i)), (0, .ref b), (1, .ref (B + 1)), (2, .ref (B + 81 + 1))] [] M1 M2 := by
  obtain ⟨r, N1, N2, h1, h2, hI2⟩ := hs M1 M2 (xs (i + 1)) hI
  refine tr_G.aload_n (i := 1) dL_law_1544 2 rfl rfl ?_
  refine tr_G.aload_n (i := 0) dL_law_1545 1 rfl rfl ?_
  refine tr_G.iload_n (i := 3) dL_law_1546 0 rfl rfl ?_
  refine tr_G.iconst (v := (1 : Int32)) dL_law_1547 (by decide) ?_
  refine tr_G.iadd dL_law_1548 ?_
  refine tr_G.sld (j := i + 1) dL_law_1549 (nI_add i 1) (by omega) (by omega) ?_
  refine tr_G.callX (CW_X6_image (xs (i + 1)) M1 _ h1) yk_X6_image iv_X6_image ml_L_179 rfl shC_1 ⟨rfl, Nat.le_of_ble_eq_true rfl⟩ rfl (fun _ => rfl) (fun _ => rfl) (Nat.le_of_ble_eq_true rfl) rfl dL_law_1550 ?_
  refine tr_G.aload_n (i := 2) dL_law_1553 3 rfl rfl ?_
  refine tr_G.aload_n (i := 0) dL_law_1554 1 rfl rfl ?_
  refine tr_G.iload_n (i := 3) dL_law_1555 0 rfl rfl ?_
  refine tr_G.iconst (v := (1 : Int32)) dL_law_1556 (by decide) ?_
  refine tr_G.iadd dL_law_1557 ?_
  refine tr_G.sld (j := i + 1) dL_law_1558 (nI_add i 1) (by omega) (by omega) ?_
  refine tr_G.callM (CW_X7_image (xs (i + 1)) M2 _ h2) yk_X7_image iv_X7_image ml_L_182 rfl shM_1 ⟨rfl, Nat.le_of_ble_eq_true rfl⟩ rfl (fun _ => rfl) (fun _ => rfl) (Nat.le_of_ble_eq_true rfl) rfl dL_law_1559 ?_
  refine tr_G.icmp_eq (tgt := 1704) dL_law_1562 (by decide) ?_
  exact ih _ _ hI2
set_option maxRecDepth 100000 in
set_option maxHeartbeats 4000000 in
theorem law_41 {Inv : tr_M → tr_M → Prop} (hs : sm_on Inv) {b L B : Nat} {xs : Nat → Int32} {Wt : tr_GT} {i : Nat} {M1 M2 : tr_M} (hI : Inv M1 M2) (hi : i + 6 ≤ L) (hL : L ≤ 3072) (ih : ∀ N1 N2, Inv N1 N2 → tr_G b L xs B Wt 1704 [(3, .int (nI i)), (0, .ref b), (1, .ref (B + 1)), (2, .ref (B + 81 + 1))] [] N1 N2) : tr_G b L xs B Wt 1567 [(3, .int (nI i)), (0, .ref b), (1, .ref (B + 1)), (2, .ref (B + 81 + 1))] [] M1 M2 := by
  obtain ⟨r, N1, N2, h1, h2, hI2⟩ := hs M1 M2 (xs (i + 1)) hI
  refine tr_G.aload_n (i := 1) dL_law_1567 2 rfl rfl ?_
  refine tr_G.aload_n (i := 0) dL_law_1568 1 rfl rfl ?_
  refine tr_G.iload_n (i := 3) dL_law_1569 0 rfl rfl ?_
  refine tr_G.iconst (v := (1 : Int32)) dL_law_1570 (by decide) ?_
  refine tr_G.iadd dL_law_1571 ?_
  refine tr_G.sld (j := i + 1) dL_law_1572 (nI_add i 1) (by omega) (by omega) ?_
  refine tr_G.callX (CW_X6_on (xs (i + 1)) M1 _ h1) yk_X6_on iv_X6_on ml_L_183 rfl shC_1 ⟨rfl, Nat.le_of_ble_eq_true rfl⟩ rfl (fun _ => rfl) (fun _ => rfl) (Nat.le_of_ble_eq_true rfl) rfl dL_law_1573 ?_
  refine tr_G.aload_n (i := 2) dL_law_1576 3 rfl rfl ?_
  refine tr_G.aload_n (i := 0) dL_law_1577 1 rfl rfl ?_
  refine tr_G.iload_n (i := 3) dL_law_1578 0 rfl rfl ?_
  refine tr_G.iconst (v := (1 : Int32)) dL_law_1579 (by decide) ?_
  refine tr_G.iadd dL_law_1580 ?_
  refine tr_G.sld (j := i + 1) dL_law_1581 (nI_add i 1) (by omega) (by omega) ?_
  refine tr_G.callM (CW_X7_on (xs (i + 1)) M2 _ h2) yk_X7_on iv_X7_on ml_L_186 rfl shM_1 ⟨rfl, Nat.le_of_ble_eq_true rfl⟩ rfl (fun _ => rfl) (fun _ => rfl) (Nat.le_of_ble_eq_true rfl) rfl dL_law_1582 ?_
  refine tr_G.icmp_eq (tgt := 1704) dL_law_1585 (by decide) ?_
  exact ih _ _ hI2
set_option maxRecDepth 100000 in
set_option maxHeartbeats 4000000 in
theorem law_42 {Inv : tr_M → tr_M → Prop} (hs : sm_asked Inv) {b L B : Nat} {xs : Nat → Int32} {Wt : tr_GT} {i : Nat} {M1 M2 : tr_M} (hI : Inv M1 M2) (hi : i + 6 ≤ L) (hL : L ≤ 3072) (ih : ∀ N1 N2, Inv N1 N2 → tr_G b L xs B Wt 1704 [(3, .int (nI i)), (0, .ref b), (1, .ref (B + 1)), (2, .ref (B + 81 + 1))] [] N1 N2) : tr_G b L xs B Wt 1590 [(3, .int (nI i)), (0, .ref b), (1, .ref (B + 1)), (2, .ref (B + 81 + 1))] [] M1 M2 := by
  obtain ⟨r, N1, N2, h1, h2, hI2⟩ := hs M1 M2 hI
  refine tr_G.aload_n (i := 1) dL_law_1590 2 rfl rfl ?_
  refine tr_G.callX (CW_X6_asked M1 _ h1) yk_X6_asked iv_X6_asked ml_L_187 rfl shC_1 ⟨rfl, Nat.le_of_ble_eq_true rfl⟩ rfl (fun _ => rfl) (fun _ => rfl) (Nat.le_of_ble_eq_true rfl) rfl dL_law_1591 ?_
  refine tr_G.aload_n (i := 2) dL_law_1594 3 rfl rfl ?_
  refine tr_G.callM (CW_X7_asked M2 _ h2) yk_X7_asked iv_X7_asked ml_L_190 rfl shM_1 ⟨rfl, Nat.le_of_ble_eq_true rfl⟩ rfl (fun _ => rfl) (fun _ => rfl) (Nat.le_of_ble_eq_true rfl) rfl dL_law_1595 ?_
  refine tr_G.icmp_eq (tgt := 1704) dL_law_1598 (by decide) ?_
  exact ih _ _ hI2
set_option maxRecDepth 100000 in
set_option maxHeartbeats 4000000 in
theorem law_43 {Inv : tr_M → tr_M → Prop} (hs : sm_upper Inv) {b L B : Nat} {xs : Nat → Int32} {Wt : tr_GT} {i : Nat} {M1 M2 : tr_M} (hI : Inv M1 M2) (hi : i + 6 ≤ L) (hL : L ≤ 3072) (ih : ∀ N1 N2, Inv N1 N2 → tr_G b L xs B Wt 1704 [(3, .int (nI i)), (0, .ref b), (1, .ref (B + 1)), (2, .ref (B + 81 + 1))] [] N1 N2) : tr_G b L xs B Wt 1603 [(3, .int (nI i)), (0, .ref b), (1, .ref (B + 1)), (2, .ref (B + 81 + 1))] [] M1 M2 := by
  obtain ⟨r, N1, N2, h1, h2, hI2⟩ := hs M1 M2 hI
  refine tr_G.aload_n (i := 1) dL_law_1603 2 rfl rfl ?_
  refine tr_G.callX (CW_X6_upper M1 _ h1) yk_X6_upper iv_X6_upper ml_L_191 rfl shC_1 ⟨rfl, Nat.le_of_ble_eq_true rfl⟩ rfl (fun _ => rfl) (fun _ => rfl) (Nat.le_of_ble_eq_true rfl) rfl dL_law_1604 ?_
  refine tr_G.aload_n (i := 2) dL_law_1607 3 rfl rfl ?_
  refine tr_G.callM (CW_X7_upper M2 _ h2) yk_X7_upper iv_X7_upper ml_L_195 rfl shM_1 ⟨rfl, Nat.le_of_ble_eq_true rfl⟩ rfl (fun _ => rfl) (fun _ => rfl) (Nat.le_of_ble_eq_true rfl) rfl dL_law_1608 ?_
  refine tr_G.lcmp dL_law_1611 ?_
  refine tr_G.if_eq (tgt := 1704) dL_law_1612 (by decide) (lg_cmp_self _) ?_
  exact ih _ _ hI2
set_option maxRecDepth 100000 in
set_option maxHeartbeats 4000000 in
theorem law_44 {Inv : tr_M → tr_M → Prop} (hs : sm_lower Inv) {b L B : Nat} {xs : Nat → Int32} {Wt : tr_GT} {i : Nat} {M1 M2 : tr_M} (hI : Inv M1 M2) (hi : i + 6 ≤ L) (hL : L ≤ 3072) (ih : ∀ N1 N2, Inv N1 N2 → tr_G b L xs B Wt 1704 [(3, .int (nI i)), (0, .ref b), (1, .ref (B + 1)), (2, .ref (B + 81 + 1))] [] N1 N2) : tr_G b L xs B Wt 1617 [(3, .int (nI i)), (0, .ref b), (1, .ref (B + 1)), (2, .ref (B + 81 + 1))] [] M1 M2 := by
  obtain ⟨r, N1, N2, h1, h2, hI2⟩ := hs M1 M2 hI
  refine tr_G.aload_n (i := 1) dL_law_1617 2 rfl rfl ?_
  refine tr_G.callX (CW_X6_lower M1 _ h1) yk_X6_lower iv_X6_lower ml_L_196 rfl shC_1 ⟨rfl, Nat.le_of_ble_eq_true rfl⟩ rfl (fun _ => rfl) (fun _ => rfl) (Nat.le_of_ble_eq_true rfl) rfl dL_law_1618 ?_
  refine tr_G.aload_n (i := 2) dL_law_1621 3 rfl rfl ?_
  refine tr_G.callM (CW_X7_lower M2 _ h2) yk_X7_lower iv_X7_lower ml_L_199 rfl shM_1 ⟨rfl, Nat.le_of_ble_eq_true rfl⟩ rfl (fun _ => rfl) (fun _ => rfl) (Nat.le_of_ble_eq_true rfl) rfl dL_law_1622 ?_
  refine tr_G.lcmp dL_law_1625 ?_
  refine tr_G.if_eq (tgt := 1704) dL_law_1626 (by decide) (lg_cmp_self _) ?_
  exact ih _ _ hI2
set_option maxRecDepth 100000 in
set_option maxHeartbeats 4000000 in
theorem law_45 {Inv : tr_M → tr_M → Prop} (hs : sm_count Inv) {b L B : Nat} {xs : Nat → Int32} {Wt : tr_GT} {i : Nat} {M1 M2 : tr_M} (hI : Inv M1 M2) (hi : i + 6 ≤ L) (hL : L ≤ 3072) (ih : ∀ N1 N2, Inv N1 N2 → tr_G b L xs B Wt 1704 [(3, .int (nI i)), (0, .ref b), (1, .ref (B + 1)), (2, .ref (B + 81 + 1))] [] N1 N2) : tr_G b L xs B Wt 1631 [(3, .int (nI i)), (0, .ref b), (1, .ref (B + 1)), (2, .ref (B + 81 + 1))] [] M1 M2 := by
  obtain ⟨r, N1, N2, h1, h2, hI2⟩ := hs M1 M2 (xs (i + 1)) hI
  refine tr_G.aload_n (i := 1) dL_law_1631 2 rfl rfl ?_
  refine tr_G.aload_n (i := 0) dL_law_1632 1 rfl rfl ?_
  refine tr_G.iload_n (i := 3) dL_law_1633 0 rfl rfl ?_
  refine tr_G.iconst (v := (1 : Int32)) dL_law_1634 (by decide) ?_
  refine tr_G.iadd dL_law_1635 ?_
  refine tr_G.sld (j := i + 1) dL_law_1636 (nI_add i 1) (by omega) (by omega) ?_
  refine tr_G.callX (CW_X6_count (xs (i + 1)) M1 _ h1) yk_X6_count iv_X6_count ml_L_200 rfl shC_1 ⟨rfl, Nat.le_of_ble_eq_true rfl⟩ rfl (fun _ => rfl) (fun _ => rfl) (Nat.le_of_ble_eq_true rfl) rfl dL_law_1637 ?_
  refine tr_G.aload_n (i := 2) dL_law_1640 3 rfl rfl ?_
  refine tr_G.aload_n (i := 0) dL_law_1641 1 rfl rfl ?_
  refine tr_G.iload_n (i := 3) dL_law_1642 0 rfl rfl ?_
  refine tr_G.iconst (v := (1 : Int32)) dL_law_1643 (by decide) ?_
  refine tr_G.iadd dL_law_1644 ?_
  refine tr_G.sld (j := i + 1) dL_law_1645 (nI_add i 1) (by omega) (by omega) ?_
  refine tr_G.callM (CW_X7_count (xs (i + 1)) M2 _ h2) yk_X7_count iv_X7_count ml_L_203 rfl shM_1 ⟨rfl, Nat.le_of_ble_eq_true rfl⟩ rfl (fun _ => rfl) (fun _ => rfl) (Nat.le_of_ble_eq_true rfl) rfl dL_law_1646 ?_
  refine tr_G.icmp_eq (tgt := 1704) dL_law_1649 (by decide) ?_
  exact ih _ _ hI2
set_option maxRecDepth 100000 in
set_option maxHeartbeats 4000000 in
theorem law_46 {Inv : tr_M → tr_M → Prop} (hs : sm_finding Inv) {b L B : Nat} {xs : Nat → Int32} {Wt : tr_GT} {i : Nat} {M1 M2 : tr_M} (hI : Inv M1 M2) (hi : i + 6 ≤ L) (hL : L ≤ 3072) (ih : ∀ N1 N2, Inv N1 N2 → tr_G b L xs B Wt 1704 [(3, .int (nI i)), (0, .ref b), (1, .ref (B + 1)), (2, .ref (B + 81 + 1))] [] N1 N2) : tr_G b L xs B Wt 1654 [(3, .int (nI i)), (0, .ref b), (1, .ref (B + 1)), (2, .ref (B + 81 + 1))] [] M1 M2 := by
  obtain ⟨r, N1, N2, h1, h2, hI2⟩ := hs M1 M2 hI
  refine tr_G.aload_n (i := 1) dL_law_1654 2 rfl rfl ?_
  refine tr_G.callX (CW_X6_finding M1 _ h1) yk_X6_finding iv_X6_finding ml_L_204 rfl shC_1 ⟨rfl, Nat.le_of_ble_eq_true rfl⟩ rfl (fun _ => rfl) (fun _ => rfl) (Nat.le_of_ble_eq_true rfl) rfl dL_law_1655 ?_
  refine tr_G.aload_n (i := 2) dL_law_1658 3 rfl rfl ?_
  refine tr_G.callM (CW_X7_finding M2 _ h2) yk_X7_finding iv_X7_finding ml_L_207 rfl shM_1 ⟨rfl, Nat.le_of_ble_eq_true rfl⟩ rfl (fun _ => rfl) (fun _ => rfl) (Nat.le_of_ble_eq_true rfl) rfl dL_law_1659 ?_
  refine tr_G.icmp_eq (tgt := 1704) dL_law_1662 (by decide) ?_
  exact ih _ _ hI2
set_option maxRecDepth 100000 in
set_option maxHeartbeats 4000000 in
theorem law_47 {Inv : tr_M → tr_M → Prop} (hs : sm_findings Inv) {b L B : Nat} {xs : Nat → Int32} {Wt : tr_GT} {i : Nat} {M1 M2 : tr_M} (hI : Inv M1 M2) (hi : i + 6 ≤ L) (hL : L ≤ 3072) (ih : ∀ N1 N2, Inv N1 N2 → tr_G b L xs B Wt 1704 [(3, .int (nI i)), (0, .ref b), (1, .ref (B + 1)), (2, .ref (B + 81 + 1))] [] N1 N2) : tr_G b L xs B Wt 1667 [(3, .int (nI i)), (0, .ref b), (1, .ref (B + 1)), (2, .ref (B + 81 + 1))] [] M1 M2 := by
  obtain ⟨r, N1, N2, h1, h2, hI2⟩ := hs M1 M2 (xs (i + 1)) hI
  refine tr_G.aload_n (i := 1) dL_law_1667 2 rfl rfl ?_
  refine tr_G.aload_n (i := 0) dL_law_1668 1 rfl rfl ?_
  refine tr_G.iload_n (i := 3) dL_law_1669 0 rfl rfl ?_
  refine tr_G.iconst (v := (1 : Int32)) dL_law_1670 (by decide) ?_
  refine tr_G.iadd dL_law_1671 ?_
  refine tr_G.sld (j := i + 1) dL_law_1672 (nI_add i 1) (by omega) (by omega) ?_
  refine tr_G.callX (CW_X6_findings (xs (i + 1)) M1 _ h1) yk_X6_findings iv_X6_findings ml_L_208 rfl shC_1 ⟨rfl, Nat.le_of_ble_eq_true rfl⟩ rfl (fun _ => rfl) (fun _ => rfl) (Nat.le_of_ble_eq_true rfl) rfl dL_law_1673 ?_
  refine tr_G.aload_n (i := 2) dL_law_1676 3 rfl rfl ?_
  refine tr_G.aload_n (i := 0) dL_law_1677 1 rfl rfl ?_
  refine tr_G.iload_n (i := 3) dL_law_1678 0 rfl rfl ?_
  refine tr_G.iconst (v := (1 : Int32)) dL_law_1679 (by decide) ?_
  refine tr_G.iadd dL_law_1680 ?_
  refine tr_G.sld (j := i + 1) dL_law_1681 (nI_add i 1) (by omega) (by omega) ?_
  refine tr_G.callM (CW_X7_findings (xs (i + 1)) M2 _ h2) yk_X7_findings iv_X7_findings ml_L_211 rfl shM_1 ⟨rfl, Nat.le_of_ble_eq_true rfl⟩ rfl (fun _ => rfl) (fun _ => rfl) (Nat.le_of_ble_eq_true rfl) rfl dL_law_1682 ?_
  refine tr_G.icmp_eq (tgt := 1704) dL_law_1685 (by decide) ?_
  exact ih _ _ hI2
set_option maxRecDepth 100000 in
set_option maxHeartbeats 4000000 in
theorem law_48 {Inv : tr_M → tr_M → Prop} (hs : sm_digest Inv) {b L B : Nat} {xs : Nat → Int32} {Wt : tr_GT} {i : Nat} {M1 M2 : tr_M} (hI : Inv M1 M2) (hi : i + 6 ≤ L) (hL : L ≤ 3072) (ih : ∀ N1 N2, Inv N1 N2 → tr_G b L xs B Wt 1704 [(3, .int (nI i)), (0, .ref b), (1, .ref (B + 1)), (2, .ref (B + 81 + 1))] [] N1 N2) : tr_G b L xs B Wt 1690 [(3, .int (nI i)), (0, .ref b), (1, .ref (B + 1)), (2, .ref (B + 81 + 1))] [] M1 M2 := by
  obtain ⟨r, N1, N2, h1, h2, hI2⟩ := hs M1 M2 hI
  refine tr_G.aload_n (i := 1) dL_law_1690 2 rfl rfl ?_
  refine tr_G.callX (CW_X6_digest M1 _ h1) yk_X6_digest iv_X6_digest ml_L_212 rfl shC_1 ⟨rfl, Nat.le_of_ble_eq_true rfl⟩ rfl (fun _ => rfl) (fun _ => rfl) (Nat.le_of_ble_eq_true rfl) rfl dL_law_1691 ?_
  refine tr_G.aload_n (i := 2) dL_law_1694 3 rfl rfl ?_
  refine tr_G.callM (CW_X7_digest M2 _ h2) yk_X7_digest iv_X7_digest ml_L_215 rfl shM_1 ⟨rfl, Nat.le_of_ble_eq_true rfl⟩ rfl (fun _ => rfl) (fun _ => rfl) (Nat.le_of_ble_eq_true rfl) rfl dL_law_1695 ?_
  refine tr_G.lcmp dL_law_1698 ?_
  refine tr_G.if_eq (tgt := 1704) dL_law_1699 (by decide) (lg_cmp_self _) ?_
  exact ih _ _ hI2
set_option maxRecDepth 100000 in
set_option maxHeartbeats 4000000 in
theorem law_loop {Inv : tr_M → tr_M → Prop} (hs : tr_same Inv) {b L B : Nat} {xs : Nat → Int32} {Wt : tr_GT} (hL : L ≤ 3072) : ∀ (n i : Nat) (M1 M2 : tr_M), L < i + n → i ≤ L + 6 → Inv M1 M2 → tr_G b L xs B Wt 18 [(3, .int (nI i)), (0, .ref b), (1, .ref (B + 1)), (2, .ref (B + 81 + 1))] [] M1 M2
  | 0, i, M1, M2, hn, _, hI => by
    refine tr_G.iload_n (i := 3) dL_law_18 0 rfl rfl ?_
    refine tr_G.aload_n (i := 0) dL_law_19 1 rfl rfl ?_
    refine tr_G.slen dL_law_20 ?_
    refine tr_G.bipush (v := (6 : Int32)) dL_law_21 (by decide) ?_
    refine tr_G.isub dL_law_23 ?_
    refine tr_G.icmp_gt (tgt := 1710) dL_law_24 (by decide) (fun _ => ?_) (fun q => ?_)
    · refine tr_G.iconst (v := (1 : Int32)) dL_law_1710 (by decide) ?_
      exact tr_G.ret dL_law_1711
    · exfalso
      rw [show (6 : Int32) = nI 6 from rfl, Int32.not_lt, Int32.le_iff_toInt_le, nI_toInt (by omega), pk_sub_toInt (a := L) (b := 6) (by omega) (by omega)] at q
      omega
  | n + 1, i, M1, M2, hn, hi6, hI => by
    refine tr_G.iload_n (i := 3) dL_law_18 0 rfl rfl ?_
    refine tr_G.aload_n (i := 0) dL_law_19 1 rfl rfl ?_
    refine tr_G.slen dL_law_20 ?_
    refine tr_G.bipush (v := (6 : Int32)) dL_law_21 (by decide) ?_
    refine tr_G.isub dL_law_23 ?_
    refine tr_G.icmp_gt (tgt := 1710) dL_law_24 (by decide) (fun _ => ?_) (fun q => ?_)
    · refine tr_G.iconst (v := (1 : Int32)) dL_law_1710 (by decide) ?_
      exact tr_G.ret dL_law_1711
    · have hi : i + 6 ≤ L := by
        rw [show (6 : Int32) = nI 6 from rfl, Int32.not_lt, Int32.le_iff_toInt_le, nI_toInt (by omega), pk_sub_toInt (a := L) (b := 6) (by omega) (by omega)] at q
        omega
      have ih : ∀ N1 N2, Inv N1 N2 → tr_G b L xs B Wt 1704 [(3, .int (nI i)), (0, .ref b), (1, .ref (B + 1)), (2, .ref (B + 81 + 1))] [] N1 N2 := fun N1 N2 hN => by
        refine tr_G.iinc (n0 := 0) (v := nI (i + 6)) (lv' := [(3, .int (nI (i + 6))), (0, .ref b), (1, .ref (B + 1)), (2, .ref (B + 81 + 1))]) dL_law_1704 rfl (nI_add i 6) (by decide) rfl ?_
        refine tr_G.goto (tgt := 18) dL_law_1707 (by decide) ?_
        exact law_loop hs hL n (i + 6) N1 N2 (by omega) (by omega) hN
      refine tr_G.aload_n (i := 0) dL_law_27 1 rfl rfl ?_
      refine tr_G.iload_n (i := 3) dL_law_28 0 rfl rfl ?_
      refine tr_G.sld (j := i) dL_law_29 rfl (by omega) (by omega) ?_
      refine tr_G.bipush (v := (63 : Int32)) dL_law_30 (by decide) ?_
      refine tr_G.iand dL_law_32 ?_
      have hop := nI_of_and (xs i)
      have hlt : (xs i).toBitVec.toNat % 64 < 64 := Nat.mod_lt _ (by decide)
      generalize (xs i).toBitVec.toNat % 64 = o at hop hlt
      by_cases ho : 48 < o
      · refine tr_G.tableOut (tgt := 1704) dL_law_33 (Or.inr (by rw [hop, nI_toInt (by omega)]; omega)) (by decide) ?_
        exact ih M1 M2 hI
      rcases (show o = 0 ∨ o = 1 ∨ o = 2 ∨ o = 3 ∨ o = 4 ∨ o = 5 ∨ o = 6 ∨ o = 7 ∨ o = 8 ∨ o = 9 ∨ o = 10 ∨ o = 11 ∨ o = 12 ∨ o = 13 ∨ o = 14 ∨ o = 15 ∨ o = 16 ∨ o = 17 ∨ o = 18 ∨ o = 19 ∨ o = 20 ∨ o = 21 ∨ o = 22 ∨ o = 23 ∨ o = 24 ∨ o = 25 ∨ o = 26 ∨ o = 27 ∨ o = 28 ∨ o = 29 ∨ o = 30 ∨ o = 31 ∨ o = 32 ∨ o = 33 ∨ o = 34 ∨ o = 35 ∨ o = 36 ∨ o = 37 ∨ o = 38 ∨ o = 39 ∨ o = 40 ∨ o = 41 ∨ o = 42 ∨ o = 43 ∨ o = 44 ∨ o = 45 ∨ o = 46 ∨ o = 47 ∨ o = 48 by omega) with rfl | rfl | rfl | rfl | rfl | rfl | rfl | rfl | rfl | rfl | rfl | rfl | rfl | rfl | rfl | rfl | rfl | rfl | rfl | rfl | rfl | rfl | rfl | rfl | rfl | rfl | rfl | rfl | rfl | rfl | rfl | rfl | rfl | rfl | rfl | rfl | rfl | rfl | rfl | rfl | rfl | rfl | rfl | rfl | rfl | rfl | rfl | rfl | rfl
      · exact tr_G.tableIn (kk := 0) (tgt := 244) dL_law_33 hop (by decide) rfl (by decide) (law_0 hs.1 hI hi hL ih)
      · exact tr_G.tableIn (kk := 1) (tgt := 277) dL_law_33 hop (by decide) rfl (by decide) (law_1 hs.2.1 hI hi hL ih)
      · exact tr_G.tableIn (kk := 2) (tgt := 320) dL_law_33 hop (by decide) rfl (by decide) (law_2 hs.2.2.1 hI hi hL ih)
      · exact tr_G.tableIn (kk := 3) (tgt := 353) dL_law_33 hop (by decide) rfl (by decide) (law_3 hs.2.2.2.1 hI hi hL ih)
      · exact tr_G.tableIn (kk := 4) (tgt := 376) dL_law_33 hop (by decide) rfl (by decide) (law_4 hs.2.2.2.2.1 hI hi hL ih)
      · exact tr_G.tableIn (kk := 5) (tgt := 439) dL_law_33 hop (by decide) rfl (by decide) (law_5 hs.2.2.2.2.2.1 hI hi hL ih)
      · exact tr_G.tableIn (kk := 6) (tgt := 462) dL_law_33 hop (by decide) rfl (by decide) (law_6 hs.2.2.2.2.2.2.1 hI hi hL ih)
      · exact tr_G.tableIn (kk := 7) (tgt := 495) dL_law_33 hop (by decide) rfl (by decide) (law_7 hs.2.2.2.2.2.2.2.1 hI hi hL ih)
      · exact tr_G.tableIn (kk := 8) (tgt := 538) dL_law_33 hop (by decide) rfl (by decide) (law_8 hs.2.2.2.2.2.2.2.2.1 hI hi hL ih)
      · exact tr_G.tableIn (kk := 9) (tgt := 561) dL_law_33 hop (by decide) rfl (by decide) (law_9 hs.2.2.2.2.2.2.2.2.2.1 hI hi hL ih)
      · exact tr_G.tableIn (kk := 10) (tgt := 584) dL_law_33 hop (by decide) rfl (by decide) (law_10 hs.2.2.2.2.2.2.2.2.2.2.1 hI hi hL ih)
      · exact tr_G.tableIn (kk := 11) (tgt := 627) dL_law_33 hop (by decide) rfl (by decide) (law_11 hs.2.2.2.2.2.2.2.2.2.2.2.1 hI hi hL ih)
      · exact tr_G.tableIn (kk := 12) (tgt := 680) dL_law_33 hop (by decide) rfl (by decide) (law_12 hs.2.2.2.2.2.2.2.2.2.2.2.2.1 hI hi hL ih)
      · exact tr_G.tableIn (kk := 13) (tgt := 713) dL_law_33 hop (by decide) rfl (by decide) (law_13 hs.2.2.2.2.2.2.2.2.2.2.2.2.2.1 hI hi hL ih)
      · exact tr_G.tableIn (kk := 14) (tgt := 736) dL_law_33 hop (by decide) rfl (by decide) (law_14 hs.2.2.2.2.2.2.2.2.2.2.2.2.2.2.1 hI hi hL ih)
      · exact tr_G.tableIn (kk := 15) (tgt := 769) dL_law_33 hop (by decide) rfl (by decide) (law_15 hs.2.2.2.2.2.2.2.2.2.2.2.2.2.2.2.1 hI hi hL ih)
      · exact tr_G.tableIn (kk := 16) (tgt := 802) dL_law_33 hop (by decide) rfl (by decide) (law_16 hs.2.2.2.2.2.2.2.2.2.2.2.2.2.2.2.2.1 hI hi hL ih)
      · exact tr_G.tableIn (kk := 17) (tgt := 835) dL_law_33 hop (by decide) rfl (by decide) (law_17 hs.2.2.2.2.2.2.2.2.2.2.2.2.2.2.2.2.2.1 hI hi hL ih)
      · exact tr_G.tableIn (kk := 18) (tgt := 858) dL_law_33 hop (by decide) rfl (by decide) (law_18 hs.2.2.2.2.2.2.2.2.2.2.2.2.2.2.2.2.2.2.1 hI hi hL ih)
      · exact tr_G.tableIn (kk := 19) (tgt := 891) dL_law_33 hop (by decide) rfl (by decide) (law_19 hs.2.2.2.2.2.2.2.2.2.2.2.2.2.2.2.2.2.2.2.1 hI hi hL ih)
      · exact tr_G.tableIn (kk := 20) (tgt := 914) dL_law_33 hop (by decide) rfl (by decide) (law_20 hs.2.2.2.2.2.2.2.2.2.2.2.2.2.2.2.2.2.2.2.2.1 hI hi hL ih)
      · exact tr_G.tableIn (kk := 21) (tgt := 947) dL_law_33 hop (by decide) rfl (by decide) (law_21 hs.2.2.2.2.2.2.2.2.2.2.2.2.2.2.2.2.2.2.2.2.2.1 hI hi hL ih)
      · exact tr_G.tableIn (kk := 22) (tgt := 970) dL_law_33 hop (by decide) rfl (by decide) (law_22 hs.2.2.2.2.2.2.2.2.2.2.2.2.2.2.2.2.2.2.2.2.2.2.1 hI hi hL ih)
      · exact tr_G.tableIn (kk := 23) (tgt := 1003) dL_law_33 hop (by decide) rfl (by decide) (law_23 hs.2.2.2.2.2.2.2.2.2.2.2.2.2.2.2.2.2.2.2.2.2.2.2.1 hI hi hL ih)
      · exact tr_G.tableIn (kk := 24) (tgt := 1046) dL_law_33 hop (by decide) rfl (by decide) (law_24 hs.2.2.2.2.2.2.2.2.2.2.2.2.2.2.2.2.2.2.2.2.2.2.2.2.1 hI hi hL ih)
      · exact tr_G.tableIn (kk := 25) (tgt := 1059) dL_law_33 hop (by decide) rfl (by decide) (law_25 hs.2.2.2.2.2.2.2.2.2.2.2.2.2.2.2.2.2.2.2.2.2.2.2.2.2.1 hI hi hL ih)
      · exact tr_G.tableIn (kk := 26) (tgt := 1082) dL_law_33 hop (by decide) rfl (by decide) (law_26 hs.2.2.2.2.2.2.2.2.2.2.2.2.2.2.2.2.2.2.2.2.2.2.2.2.2.2.1 hI hi hL ih)
      · exact tr_G.tableIn (kk := 27) (tgt := 1125) dL_law_33 hop (by decide) rfl (by decide) (law_27 hs.2.2.2.2.2.2.2.2.2.2.2.2.2.2.2.2.2.2.2.2.2.2.2.2.2.2.2.1 hI hi hL ih)
      · exact tr_G.tableIn (kk := 28) (tgt := 1158) dL_law_33 hop (by decide) rfl (by decide) (law_28 hs.2.2.2.2.2.2.2.2.2.2.2.2.2.2.2.2.2.2.2.2.2.2.2.2.2.2.2.2.1 hI hi hL ih)
      · exact tr_G.tableIn (kk := 29) (tgt := 1201) dL_law_33 hop (by decide) rfl (by decide) (law_29 hs.2.2.2.2.2.2.2.2.2.2.2.2.2.2.2.2.2.2.2.2.2.2.2.2.2.2.2.2.2.1 hI hi hL ih)
      · exact tr_G.tableIn (kk := 30) (tgt := 1234) dL_law_33 hop (by decide) rfl (by decide) (law_30 hs.2.2.2.2.2.2.2.2.2.2.2.2.2.2.2.2.2.2.2.2.2.2.2.2.2.2.2.2.2.2.1 hI hi hL ih)
      · exact tr_G.tableIn (kk := 31) (tgt := 1267) dL_law_33 hop (by decide) rfl (by decide) (law_31 hs.2.2.2.2.2.2.2.2.2.2.2.2.2.2.2.2.2.2.2.2.2.2.2.2.2.2.2.2.2.2.2.1 hI hi hL ih)
      · exact tr_G.tableIn (kk := 32) (tgt := 1310) dL_law_33 hop (by decide) rfl (by decide) (law_32 hs.2.2.2.2.2.2.2.2.2.2.2.2.2.2.2.2.2.2.2.2.2.2.2.2.2.2.2.2.2.2.2.2.1 hI hi hL ih)
      · exact tr_G.tableIn (kk := 33) (tgt := 1343) dL_law_33 hop (by decide) rfl (by decide) (law_33 hs.2.2.2.2.2.2.2.2.2.2.2.2.2.2.2.2.2.2.2.2.2.2.2.2.2.2.2.2.2.2.2.2.2.1 hI hi hL ih)
      · exact tr_G.tableIn (kk := 34) (tgt := 1356) dL_law_33 hop (by decide) rfl (by decide) (law_34 hs.2.2.2.2.2.2.2.2.2.2.2.2.2.2.2.2.2.2.2.2.2.2.2.2.2.2.2.2.2.2.2.2.2.2.1 hI hi hL ih)
      · exact tr_G.tableIn (kk := 35) (tgt := 1389) dL_law_33 hop (by decide) rfl (by decide) (law_35 hs.2.2.2.2.2.2.2.2.2.2.2.2.2.2.2.2.2.2.2.2.2.2.2.2.2.2.2.2.2.2.2.2.2.2.2.1 hI hi hL ih)
      · exact tr_G.tableIn (kk := 36) (tgt := 1422) dL_law_33 hop (by decide) rfl (by decide) (law_36 hs.2.2.2.2.2.2.2.2.2.2.2.2.2.2.2.2.2.2.2.2.2.2.2.2.2.2.2.2.2.2.2.2.2.2.2.2.1 hI hi hL ih)
      · exact tr_G.tableIn (kk := 37) (tgt := 1455) dL_law_33 hop (by decide) rfl (by decide) (law_37 hs.2.2.2.2.2.2.2.2.2.2.2.2.2.2.2.2.2.2.2.2.2.2.2.2.2.2.2.2.2.2.2.2.2.2.2.2.2.1 hI hi hL ih)
      · exact tr_G.tableIn (kk := 38) (tgt := 1488) dL_law_33 hop (by decide) rfl (by decide) (law_38 hs.2.2.2.2.2.2.2.2.2.2.2.2.2.2.2.2.2.2.2.2.2.2.2.2.2.2.2.2.2.2.2.2.2.2.2.2.2.2.1 hI hi hL ih)
      · exact tr_G.tableIn (kk := 39) (tgt := 1531) dL_law_33 hop (by decide) rfl (by decide) (law_39 hs.2.2.2.2.2.2.2.2.2.2.2.2.2.2.2.2.2.2.2.2.2.2.2.2.2.2.2.2.2.2.2.2.2.2.2.2.2.2.2.1 hI hi hL ih)
      · exact tr_G.tableIn (kk := 40) (tgt := 1544) dL_law_33 hop (by decide) rfl (by decide) (law_40 hs.2.2.2.2.2.2.2.2.2.2.2.2.2.2.2.2.2.2.2.2.2.2.2.2.2.2.2.2.2.2.2.2.2.2.2.2.2.2.2.2.1 hI hi hL ih)
      · exact tr_G.tableIn (kk := 41) (tgt := 1567) dL_law_33 hop (by decide) rfl (by decide) (law_41 hs.2.2.2.2.2.2.2.2.2.2.2.2.2.2.2.2.2.2.2.2.2.2.2.2.2.2.2.2.2.2.2.2.2.2.2.2.2.2.2.2.2.1 hI hi hL ih)
      · exact tr_G.tableIn (kk := 42) (tgt := 1590) dL_law_33 hop (by decide) rfl (by decide) (law_42 hs.2.2.2.2.2.2.2.2.2.2.2.2.2.2.2.2.2.2.2.2.2.2.2.2.2.2.2.2.2.2.2.2.2.2.2.2.2.2.2.2.2.2.1 hI hi hL ih)
      · exact tr_G.tableIn (kk := 43) (tgt := 1603) dL_law_33 hop (by decide) rfl (by decide) (law_43 hs.2.2.2.2.2.2.2.2.2.2.2.2.2.2.2.2.2.2.2.2.2.2.2.2.2.2.2.2.2.2.2.2.2.2.2.2.2.2.2.2.2.2.2.1 hI hi hL ih)
      · exact tr_G.tableIn (kk := 44) (tgt := 1617) dL_law_33 hop (by decide) rfl (by decide) (law_44 hs.2.2.2.2.2.2.2.2.2.2.2.2.2.2.2.2.2.2.2.2.2.2.2.2.2.2.2.2.2.2.2.2.2.2.2.2.2.2.2.2.2.2.2.2.1 hI hi hL ih)
      · exact tr_G.tableIn (kk := 45) (tgt := 1631) dL_law_33 hop (by decide) rfl (by decide) (law_45 hs.2.2.2.2.2.2.2.2.2.2.2.2.2.2.2.2.2.2.2.2.2.2.2.2.2.2.2.2.2.2.2.2.2.2.2.2.2.2.2.2.2.2.2.2.2.1 hI hi hL ih)
      · exact tr_G.tableIn (kk := 46) (tgt := 1654) dL_law_33 hop (by decide) rfl (by decide) (law_46 hs.2.2.2.2.2.2.2.2.2.2.2.2.2.2.2.2.2.2.2.2.2.2.2.2.2.2.2.2.2.2.2.2.2.2.2.2.2.2.2.2.2.2.2.2.2.2.1 hI hi hL ih)
      · exact tr_G.tableIn (kk := 47) (tgt := 1667) dL_law_33 hop (by decide) rfl (by decide) (law_47 hs.2.2.2.2.2.2.2.2.2.2.2.2.2.2.2.2.2.2.2.2.2.2.2.2.2.2.2.2.2.2.2.2.2.2.2.2.2.2.2.2.2.2.2.2.2.2.2.1 hI hi hL ih)
      · exact tr_G.tableIn (kk := 48) (tgt := 1690) dL_law_33 hop (by decide) rfl (by decide) (law_48 hs.2.2.2.2.2.2.2.2.2.2.2.2.2.2.2.2.2.2.2.2.2.2.2.2.2.2.2.2.2.2.2.2.2.2.2.2.2.2.2.2.2.2.2.2.2.2.2.2 hI hi hL ih)
