/-! the law: a case for each operation -/
section LAWC
variable {b L i : Nat} {xs : Nat → Int32} {mem : wf_Mem}
theorem law_wagon (hL : L ≤ 3072) (hi : i + 6 ≤ L) (hI : INV mem) (k : ∀ m, INV m → Vw (NLaw b L xs) mL_law 1445 [(0, .ref 90002), (1, .ref 0), (2, .ref 120), (3, .int (nI i))] [] m) : Vw (NLaw b L xs) mL_law 212 [(0, .ref 90002), (1, .ref 0), (2, .ref 120), (3, .int (nI i))] [] mem := by
  refine V_aload_n 1 dL_law_212 rfl ?_
  refine V_aload_n 0 dL_law_213 rfl ?_
  refine V_iload_n 3 dL_law_214 rfl ?_
  refine V_iconst dL_law_215 rfl ?_
  refine V_iadd dL_law_216 ?_
  refine V_sld dL_law_217 (show nI i + 1 = nI (i + 1) from nI_add i 1) (by omega) hL ?_
  refine V_cVi [.int (xs (i + 1))] mvl_X8_wagon wl_4 dL_law_218 law_rok sh_l0 rfl (by decide) rfl rfl (Nat.le_of_ble_eq_true rfl) (L_wagon (d := 80) hI (xs (i + 1))) (fun r m1 h1 => ?_)
  refine V_aload_n 2 dL_law_221 rfl ?_
  refine V_aload_n 0 dL_law_222 rfl ?_
  refine V_iload_n 3 dL_law_223 rfl ?_
  refine V_iconst dL_law_224 rfl ?_
  refine V_iadd dL_law_225 ?_
  refine V_sld dL_law_226 (show nI i + 1 = nI (i + 1) from nI_add i 1) (by omega) hL ?_
  refine V_cVi [.int (xs (i + 1))] mvl_X9_wagon wl_9 dL_law_227 law_rok sh_a120 rfl (by decide) rfl rfl (Nat.le_of_ble_eq_true rfl) h1 (fun r2 m2 h2 => ?_)
  exact V_icmp_eq (tgt := 1445) dL_law_230 rfl ⟨fun _ => k m2 h2.2, fun q => absurd h2.1 q⟩
theorem law_at (hL : L ≤ 3072) (hi : i + 6 ≤ L) (hI : INV mem) (k : ∀ m, INV m → Vw (NLaw b L xs) mL_law 1445 [(0, .ref 90002), (1, .ref 0), (2, .ref 120), (3, .int (nI i))] [] m) : Vw (NLaw b L xs) mL_law 235 [(0, .ref 90002), (1, .ref 0), (2, .ref 120), (3, .int (nI i))] [] mem := by
  refine V_aload_n 1 dL_law_235 rfl ?_
  refine V_aload_n 0 dL_law_236 rfl ?_
  refine V_iload_n 3 dL_law_237 rfl ?_
  refine V_iconst dL_law_238 rfl ?_
  refine V_iadd dL_law_239 ?_
  refine V_sld dL_law_240 (show nI i + 1 = nI (i + 1) from nI_add i 1) (by omega) hL ?_
  refine V_aload_n 0 dL_law_241 rfl ?_
  refine V_iload_n 3 dL_law_242 rfl ?_
  refine V_iconst dL_law_243 rfl ?_
  refine V_iadd dL_law_244 ?_
  refine V_sld dL_law_245 (show nI i + 2 = nI (i + 2) from nI_add i 2) (by omega) hL ?_
  refine V_cVi [.int (xs (i + 1)), .int (xs (i + 2))] mvl_X8_at wl_13 dL_law_246 law_rok sh_l0 rfl (by decide) rfl rfl (Nat.le_of_ble_eq_true rfl) (L_at (d := 80) hI (xs (i + 1)) (xs (i + 2))) (fun r m1 h1 => ?_)
  refine V_aload_n 2 dL_law_249 rfl ?_
  refine V_aload_n 0 dL_law_250 rfl ?_
  refine V_iload_n 3 dL_law_251 rfl ?_
  refine V_iconst dL_law_252 rfl ?_
  refine V_iadd dL_law_253 ?_
  refine V_sld dL_law_254 (show nI i + 1 = nI (i + 1) from nI_add i 1) (by omega) hL ?_
  refine V_aload_n 0 dL_law_255 rfl ?_
  refine V_iload_n 3 dL_law_256 rfl ?_
  refine V_iconst dL_law_257 rfl ?_
  refine V_iadd dL_law_258 ?_
  refine V_sld dL_law_259 (show nI i + 2 = nI (i + 2) from nI_add i 2) (by omega) hL ?_
  refine V_cVi [.int (xs (i + 1)), .int (xs (i + 2))] mvl_X9_at wl_17 dL_law_260 law_rok sh_a120 rfl (by decide) rfl rfl (Nat.le_of_ble_eq_true rfl) h1 (fun r2 m2 h2 => ?_)
  exact V_icmp_eq (tgt := 1445) dL_law_263 rfl ⟨fun _ => k m2 h2.2, fun q => absurd h2.1 q⟩
theorem law_lays (hL : L ≤ 3072) (hi : i + 6 ≤ L) (hI : INV mem) (k : ∀ m, INV m → Vw (NLaw b L xs) mL_law 1445 [(0, .ref 90002), (1, .ref 0), (2, .ref 120), (3, .int (nI i))] [] m) : Vw (NLaw b L xs) mL_law 268 [(0, .ref 90002), (1, .ref 0), (2, .ref 120), (3, .int (nI i))] [] mem := by
  refine V_aload_n 1 dL_law_268 rfl ?_
  refine V_aload_n 0 dL_law_269 rfl ?_
  refine V_iload_n 3 dL_law_270 rfl ?_
  refine V_iconst dL_law_271 rfl ?_
  refine V_iadd dL_law_272 ?_
  refine V_sld dL_law_273 (show nI i + 1 = nI (i + 1) from nI_add i 1) (by omega) hL ?_
  refine V_aload_n 0 dL_law_274 rfl ?_
  refine V_iload_n 3 dL_law_275 rfl ?_
  refine V_iconst dL_law_276 rfl ?_
  refine V_iadd dL_law_277 ?_
  refine V_sld dL_law_278 (show nI i + 2 = nI (i + 2) from nI_add i 2) (by omega) hL ?_
  refine V_aload_n 0 dL_law_279 rfl ?_
  refine V_iload_n 3 dL_law_280 rfl ?_
  refine V_iconst dL_law_281 rfl ?_
  refine V_iadd dL_law_282 ?_
  refine V_sld dL_law_283 (show nI i + 3 = nI (i + 3) from nI_add i 3) (by omega) hL ?_
  refine V_cVi [.int (xs (i + 1)), .int (xs (i + 2)), .int (xs (i + 3))] mvl_X8_lays wl_21 dL_law_284 law_rok sh_l0 rfl (by decide) rfl rfl (Nat.le_of_ble_eq_true rfl) (L_lays (d := 80) hI (xs (i + 1)) (xs (i + 2)) (xs (i + 3))) (fun r m1 h1 => ?_)
  refine V_aload_n 2 dL_law_287 rfl ?_
  refine V_aload_n 0 dL_law_288 rfl ?_
  refine V_iload_n 3 dL_law_289 rfl ?_
  refine V_iconst dL_law_290 rfl ?_
  refine V_iadd dL_law_291 ?_
  refine V_sld dL_law_292 (show nI i + 1 = nI (i + 1) from nI_add i 1) (by omega) hL ?_
  refine V_aload_n 0 dL_law_293 rfl ?_
  refine V_iload_n 3 dL_law_294 rfl ?_
  refine V_iconst dL_law_295 rfl ?_
  refine V_iadd dL_law_296 ?_
  refine V_sld dL_law_297 (show nI i + 2 = nI (i + 2) from nI_add i 2) (by omega) hL ?_
  refine V_aload_n 0 dL_law_298 rfl ?_
  refine V_iload_n 3 dL_law_299 rfl ?_
  refine V_iconst dL_law_300 rfl ?_
  refine V_iadd dL_law_301 ?_
  refine V_sld dL_law_302 (show nI i + 3 = nI (i + 3) from nI_add i 3) (by omega) hL ?_
  refine V_cVi [.int (xs (i + 1)), .int (xs (i + 2)), .int (xs (i + 3))] mvl_X9_lays wl_25 dL_law_303 law_rok sh_a120 rfl (by decide) rfl rfl (Nat.le_of_ble_eq_true rfl) h1 (fun r2 m2 h2 => ?_)
  exact V_icmp_eq (tgt := 1445) dL_law_306 rfl ⟨fun _ => k m2 h2.2, fun q => absurd h2.1 q⟩
theorem law_far (hL : L ≤ 3072) (hi : i + 6 ≤ L) (hI : INV mem) (k : ∀ m, INV m → Vw (NLaw b L xs) mL_law 1445 [(0, .ref 90002), (1, .ref 0), (2, .ref 120), (3, .int (nI i))] [] m) : Vw (NLaw b L xs) mL_law 311 [(0, .ref 90002), (1, .ref 0), (2, .ref 120), (3, .int (nI i))] [] mem := by
  refine V_aload_n 1 dL_law_311 rfl ?_
  refine V_aload_n 0 dL_law_312 rfl ?_
  refine V_iload_n 3 dL_law_313 rfl ?_
  refine V_iconst dL_law_314 rfl ?_
  refine V_iadd dL_law_315 ?_
  refine V_sld dL_law_316 (show nI i + 1 = nI (i + 1) from nI_add i 1) (by omega) hL ?_
  refine V_aload_n 0 dL_law_317 rfl ?_
  refine V_iload_n 3 dL_law_318 rfl ?_
  refine V_iconst dL_law_319 rfl ?_
  refine V_iadd dL_law_320 ?_
  refine V_sld dL_law_321 (show nI i + 2 = nI (i + 2) from nI_add i 2) (by omega) hL ?_
  refine V_cVi [.int (xs (i + 1)), .int (xs (i + 2))] mvl_X8_far wl_29 dL_law_322 law_rok sh_l0 rfl (by decide) rfl rfl (Nat.le_of_ble_eq_true rfl) (L_far (d := 80) hI (xs (i + 1)) (xs (i + 2))) (fun r m1 h1 => ?_)
  refine V_aload_n 2 dL_law_325 rfl ?_
  refine V_aload_n 0 dL_law_326 rfl ?_
  refine V_iload_n 3 dL_law_327 rfl ?_
  refine V_iconst dL_law_328 rfl ?_
  refine V_iadd dL_law_329 ?_
  refine V_sld dL_law_330 (show nI i + 1 = nI (i + 1) from nI_add i 1) (by omega) hL ?_
  refine V_aload_n 0 dL_law_331 rfl ?_
  refine V_iload_n 3 dL_law_332 rfl ?_
  refine V_iconst dL_law_333 rfl ?_
  refine V_iadd dL_law_334 ?_
  refine V_sld dL_law_335 (show nI i + 2 = nI (i + 2) from nI_add i 2) (by omega) hL ?_
  refine V_cVi [.int (xs (i + 1)), .int (xs (i + 2))] mvl_X9_far wl_33 dL_law_336 law_rok sh_a120 rfl (by decide) rfl rfl (Nat.le_of_ble_eq_true rfl) h1 (fun r2 m2 h2 => ?_)
  exact V_icmp_eq (tgt := 1445) dL_law_339 rfl ⟨fun _ => k m2 h2.2, fun q => absurd h2.1 q⟩
theorem law_plain (hL : L ≤ 3072) (hi : i + 6 ≤ L) (hI : INV mem) (k : ∀ m, INV m → Vw (NLaw b L xs) mL_law 1445 [(0, .ref 90002), (1, .ref 0), (2, .ref 120), (3, .int (nI i))] [] m) : Vw (NLaw b L xs) mL_law 344 [(0, .ref 90002), (1, .ref 0), (2, .ref 120), (3, .int (nI i))] [] mem := by
  refine V_aload_n 1 dL_law_344 rfl ?_
  refine V_aload_n 0 dL_law_345 rfl ?_
  refine V_iload_n 3 dL_law_346 rfl ?_
  refine V_iconst dL_law_347 rfl ?_
  refine V_iadd dL_law_348 ?_
  refine V_sld dL_law_349 (show nI i + 1 = nI (i + 1) from nI_add i 1) (by omega) hL ?_
  refine V_aload_n 0 dL_law_350 rfl ?_
  refine V_iload_n 3 dL_law_351 rfl ?_
  refine V_iconst dL_law_352 rfl ?_
  refine V_iadd dL_law_353 ?_
  refine V_sld dL_law_354 (show nI i + 2 = nI (i + 2) from nI_add i 2) (by omega) hL ?_
  refine V_cVi [.int (xs (i + 1)), .int (xs (i + 2))] mvl_X8_plain wl_37 dL_law_355 law_rok sh_l0 rfl (by decide) rfl rfl (Nat.le_of_ble_eq_true rfl) (L_plain (d := 80) hI (xs (i + 1)) (xs (i + 2))) (fun r m1 h1 => ?_)
  refine V_aload_n 2 dL_law_358 rfl ?_
  refine V_aload_n 0 dL_law_359 rfl ?_
  refine V_iload_n 3 dL_law_360 rfl ?_
  refine V_iconst dL_law_361 rfl ?_
  refine V_iadd dL_law_362 ?_
  refine V_sld dL_law_363 (show nI i + 1 = nI (i + 1) from nI_add i 1) (by omega) hL ?_
  refine V_aload_n 0 dL_law_364 rfl ?_
  refine V_iload_n 3 dL_law_365 rfl ?_
  refine V_iconst dL_law_366 rfl ?_
  refine V_iadd dL_law_367 ?_
  refine V_sld dL_law_368 (show nI i + 2 = nI (i + 2) from nI_add i 2) (by omega) hL ?_
  refine V_cVi [.int (xs (i + 1)), .int (xs (i + 2))] mvl_X9_plain wl_41 dL_law_369 law_rok sh_a120 rfl (by decide) rfl rfl (Nat.le_of_ble_eq_true rfl) h1 (fun r2 m2 h2 => ?_)
  exact V_icmp_eq (tgt := 1445) dL_law_372 rfl ⟨fun _ => k m2 h2.2, fun q => absurd h2.1 q⟩
theorem law_watcher (hL : L ≤ 3072) (hi : i + 6 ≤ L) (hI : INV mem) (k : ∀ m, INV m → Vw (NLaw b L xs) mL_law 1445 [(0, .ref 90002), (1, .ref 0), (2, .ref 120), (3, .int (nI i))] [] m) : Vw (NLaw b L xs) mL_law 377 [(0, .ref 90002), (1, .ref 0), (2, .ref 120), (3, .int (nI i))] [] mem := by
  refine V_aload_n 1 dL_law_377 rfl ?_
  refine V_aload_n 0 dL_law_378 rfl ?_
  refine V_iload_n 3 dL_law_379 rfl ?_
  refine V_iconst dL_law_380 rfl ?_
  refine V_iadd dL_law_381 ?_
  refine V_sld dL_law_382 (show nI i + 1 = nI (i + 1) from nI_add i 1) (by omega) hL ?_
  refine V_aload_n 0 dL_law_383 rfl ?_
  refine V_iload_n 3 dL_law_384 rfl ?_
  refine V_iconst dL_law_385 rfl ?_
  refine V_iadd dL_law_386 ?_
  refine V_sld dL_law_387 (show nI i + 2 = nI (i + 2) from nI_add i 2) (by omega) hL ?_
  refine V_aload_n 0 dL_law_388 rfl ?_
  refine V_iload_n 3 dL_law_389 rfl ?_
  refine V_iconst dL_law_390 rfl ?_
  refine V_iadd dL_law_391 ?_
  refine V_sld dL_law_392 (show nI i + 3 = nI (i + 3) from nI_add i 3) (by omega) hL ?_
  refine V_cVi [.int (xs (i + 1)), .int (xs (i + 2)), .int (xs (i + 3))] mvl_X8_watcher wl_45 dL_law_393 law_rok sh_l0 rfl (by decide) rfl rfl (Nat.le_of_ble_eq_true rfl) (L_watcher (d := 80) hI (xs (i + 1)) (xs (i + 2)) (xs (i + 3))) (fun r m1 h1 => ?_)
  refine V_aload_n 2 dL_law_396 rfl ?_
  refine V_aload_n 0 dL_law_397 rfl ?_
  refine V_iload_n 3 dL_law_398 rfl ?_
  refine V_iconst dL_law_399 rfl ?_
  refine V_iadd dL_law_400 ?_
  refine V_sld dL_law_401 (show nI i + 1 = nI (i + 1) from nI_add i 1) (by omega) hL ?_
  refine V_aload_n 0 dL_law_402 rfl ?_
  refine V_iload_n 3 dL_law_403 rfl ?_
  refine V_iconst dL_law_404 rfl ?_
  refine V_iadd dL_law_405 ?_
  refine V_sld dL_law_406 (show nI i + 2 = nI (i + 2) from nI_add i 2) (by omega) hL ?_
  refine V_aload_n 0 dL_law_407 rfl ?_
  refine V_iload_n 3 dL_law_408 rfl ?_
  refine V_iconst dL_law_409 rfl ?_
  refine V_iadd dL_law_410 ?_
  refine V_sld dL_law_411 (show nI i + 3 = nI (i + 3) from nI_add i 3) (by omega) hL ?_
  refine V_cVi [.int (xs (i + 1)), .int (xs (i + 2)), .int (xs (i + 3))] mvl_X9_watcher wl_49 dL_law_412 law_rok sh_a120 rfl (by decide) rfl rfl (Nat.le_of_ble_eq_true rfl) h1 (fun r2 m2 h2 => ?_)
  exact V_icmp_eq (tgt := 1445) dL_law_415 rfl ⟨fun _ => k m2 h2.2, fun q => absurd h2.1 q⟩
theorem law_told (hL : L ≤ 3072) (hi : i + 6 ≤ L) (hI : INV mem) (k : ∀ m, INV m → Vw (NLaw b L xs) mL_law 1445 [(0, .ref 90002), (1, .ref 0), (2, .ref 120), (3, .int (nI i))] [] m) : Vw (NLaw b L xs) mL_law 420 [(0, .ref 90002), (1, .ref 0), (2, .ref 120), (3, .int (nI i))] [] mem := by
  refine V_aload_n 1 dL_law_420 rfl ?_
  refine V_aload_n 0 dL_law_421 rfl ?_
  refine V_iload_n 3 dL_law_422 rfl ?_
  refine V_iconst dL_law_423 rfl ?_
  refine V_iadd dL_law_424 ?_
  refine V_sld dL_law_425 (show nI i + 1 = nI (i + 1) from nI_add i 1) (by omega) hL ?_
  refine V_aload_n 0 dL_law_426 rfl ?_
  refine V_iload_n 3 dL_law_427 rfl ?_
  refine V_iconst dL_law_428 rfl ?_
  refine V_iadd dL_law_429 ?_
  refine V_sld dL_law_430 (show nI i + 2 = nI (i + 2) from nI_add i 2) (by omega) hL ?_
  refine V_cVi [.int (xs (i + 1)), .int (xs (i + 2))] mvl_X8_told wl_53 dL_law_431 law_rok sh_l0 rfl (by decide) rfl rfl (Nat.le_of_ble_eq_true rfl) (L_told (d := 80) hI (xs (i + 1)) (xs (i + 2))) (fun r m1 h1 => ?_)
  refine V_aload_n 2 dL_law_434 rfl ?_
  refine V_aload_n 0 dL_law_435 rfl ?_
  refine V_iload_n 3 dL_law_436 rfl ?_
  refine V_iconst dL_law_437 rfl ?_
  refine V_iadd dL_law_438 ?_
  refine V_sld dL_law_439 (show nI i + 1 = nI (i + 1) from nI_add i 1) (by omega) hL ?_
  refine V_aload_n 0 dL_law_440 rfl ?_
  refine V_iload_n 3 dL_law_441 rfl ?_
  refine V_iconst dL_law_442 rfl ?_
  refine V_iadd dL_law_443 ?_
  refine V_sld dL_law_444 (show nI i + 2 = nI (i + 2) from nI_add i 2) (by omega) hL ?_
  refine V_cVi [.int (xs (i + 1)), .int (xs (i + 2))] mvl_X9_told wl_57 dL_law_445 law_rok sh_a120 rfl (by decide) rfl rfl (Nat.le_of_ble_eq_true rfl) h1 (fun r2 m2 h2 => ?_)
  exact V_icmp_eq (tgt := 1445) dL_law_448 rfl ⟨fun _ => k m2 h2.2, fun q => absurd h2.1 q⟩
theorem law_as (hL : L ≤ 3072) (hi : i + 6 ≤ L) (hI : INV mem) (k : ∀ m, INV m → Vw (NLaw b L xs) mL_law 1445 [(0, .ref 90002), (1, .ref 0), (2, .ref 120), (3, .int (nI i))] [] m) : Vw (NLaw b L xs) mL_law 453 [(0, .ref 90002), (1, .ref 0), (2, .ref 120), (3, .int (nI i))] [] mem := by
  refine V_aload_n 1 dL_law_453 rfl ?_
  refine V_aload_n 0 dL_law_454 rfl ?_
  refine V_iload_n 3 dL_law_455 rfl ?_
  refine V_iconst dL_law_456 rfl ?_
  refine V_iadd dL_law_457 ?_
  refine V_sld dL_law_458 (show nI i + 1 = nI (i + 1) from nI_add i 1) (by omega) hL ?_
  refine V_aload_n 0 dL_law_459 rfl ?_
  refine V_iload_n 3 dL_law_460 rfl ?_
  refine V_iconst dL_law_461 rfl ?_
  refine V_iadd dL_law_462 ?_
  refine V_sld dL_law_463 (show nI i + 2 = nI (i + 2) from nI_add i 2) (by omega) hL ?_
  refine V_cVi [.int (xs (i + 1)), .int (xs (i + 2))] mvl_X8_as wl_61 dL_law_464 law_rok sh_l0 rfl (by decide) rfl rfl (Nat.le_of_ble_eq_true rfl) (L_as (d := 80) hI (xs (i + 1)) (xs (i + 2))) (fun r m1 h1 => ?_)
  refine V_aload_n 2 dL_law_467 rfl ?_
  refine V_aload_n 0 dL_law_468 rfl ?_
  refine V_iload_n 3 dL_law_469 rfl ?_
  refine V_iconst dL_law_470 rfl ?_
  refine V_iadd dL_law_471 ?_
  refine V_sld dL_law_472 (show nI i + 1 = nI (i + 1) from nI_add i 1) (by omega) hL ?_
  refine V_aload_n 0 dL_law_473 rfl ?_
  refine V_iload_n 3 dL_law_474 rfl ?_
  refine V_iconst dL_law_475 rfl ?_
  refine V_iadd dL_law_476 ?_
  refine V_sld dL_law_477 (show nI i + 2 = nI (i + 2) from nI_add i 2) (by omega) hL ?_
  refine V_cVi [.int (xs (i + 1)), .int (xs (i + 2))] mvl_X9_as wl_65 dL_law_478 law_rok sh_a120 rfl (by decide) rfl rfl (Nat.le_of_ble_eq_true rfl) h1 (fun r2 m2 h2 => ?_)
  exact V_icmp_eq (tgt := 1445) dL_law_481 rfl ⟨fun _ => k m2 h2.2, fun q => absurd h2.1 q⟩
theorem law_turns (hL : L ≤ 3072) (hi : i + 6 ≤ L) (hI : INV mem) (k : ∀ m, INV m → Vw (NLaw b L xs) mL_law 1445 [(0, .ref 90002), (1, .ref 0), (2, .ref 120), (3, .int (nI i))] [] m) : Vw (NLaw b L xs) mL_law 486 [(0, .ref 90002), (1, .ref 0), (2, .ref 120), (3, .int (nI i))] [] mem := by
  refine V_aload_n 1 dL_law_486 rfl ?_
  refine V_aload_n 0 dL_law_487 rfl ?_
  refine V_iload_n 3 dL_law_488 rfl ?_
  refine V_iconst dL_law_489 rfl ?_
  refine V_iadd dL_law_490 ?_
  refine V_sld dL_law_491 (show nI i + 1 = nI (i + 1) from nI_add i 1) (by omega) hL ?_
  refine V_aload_n 0 dL_law_492 rfl ?_
  refine V_iload_n 3 dL_law_493 rfl ?_
  refine V_iconst dL_law_494 rfl ?_
  refine V_iadd dL_law_495 ?_
  refine V_sld dL_law_496 (show nI i + 2 = nI (i + 2) from nI_add i 2) (by omega) hL ?_
  refine V_cVi [.int (xs (i + 1)), .int (xs (i + 2))] mvl_X8_turns wl_69 dL_law_497 law_rok sh_l0 rfl (by decide) rfl rfl (Nat.le_of_ble_eq_true rfl) (L_turns (d := 80) hI (xs (i + 1)) (xs (i + 2))) (fun r m1 h1 => ?_)
  refine V_aload_n 2 dL_law_500 rfl ?_
  refine V_aload_n 0 dL_law_501 rfl ?_
  refine V_iload_n 3 dL_law_502 rfl ?_
  refine V_iconst dL_law_503 rfl ?_
  refine V_iadd dL_law_504 ?_
  refine V_sld dL_law_505 (show nI i + 1 = nI (i + 1) from nI_add i 1) (by omega) hL ?_
  refine V_aload_n 0 dL_law_506 rfl ?_
  refine V_iload_n 3 dL_law_507 rfl ?_
  refine V_iconst dL_law_508 rfl ?_
  refine V_iadd dL_law_509 ?_
  refine V_sld dL_law_510 (show nI i + 2 = nI (i + 2) from nI_add i 2) (by omega) hL ?_
  refine V_cVi [.int (xs (i + 1)), .int (xs (i + 2))] mvl_X9_turns wl_73 dL_law_511 law_rok sh_a120 rfl (by decide) rfl rfl (Nat.le_of_ble_eq_true rfl) h1 (fun r2 m2 h2 => ?_)
  exact V_icmp_eq (tgt := 1445) dL_law_514 rfl ⟨fun _ => k m2 h2.2, fun q => absurd h2.1 q⟩
theorem law_set (hL : L ≤ 3072) (hi : i + 6 ≤ L) (hI : INV mem) (k : ∀ m, INV m → Vw (NLaw b L xs) mL_law 1445 [(0, .ref 90002), (1, .ref 0), (2, .ref 120), (3, .int (nI i))] [] m) : Vw (NLaw b L xs) mL_law 519 [(0, .ref 90002), (1, .ref 0), (2, .ref 120), (3, .int (nI i))] [] mem := by
  refine V_aload_n 1 dL_law_519 rfl ?_
  refine V_aload_n 0 dL_law_520 rfl ?_
  refine V_iload_n 3 dL_law_521 rfl ?_
  refine V_iconst dL_law_522 rfl ?_
  refine V_iadd dL_law_523 ?_
  refine V_sld dL_law_524 (show nI i + 1 = nI (i + 1) from nI_add i 1) (by omega) hL ?_
  refine V_aload_n 0 dL_law_525 rfl ?_
  refine V_iload_n 3 dL_law_526 rfl ?_
  refine V_iconst dL_law_527 rfl ?_
  refine V_iadd dL_law_528 ?_
  refine V_sld dL_law_529 (show nI i + 2 = nI (i + 2) from nI_add i 2) (by omega) hL ?_
  refine V_aload_n 0 dL_law_530 rfl ?_
  refine V_iload_n 3 dL_law_531 rfl ?_
  refine V_iconst dL_law_532 rfl ?_
  refine V_iadd dL_law_533 ?_
  refine V_sld dL_law_534 (show nI i + 3 = nI (i + 3) from nI_add i 3) (by omega) hL ?_
  refine V_cVi [.int (xs (i + 1)), .int (xs (i + 2)), .int (xs (i + 3))] mvl_X8_set wl_77 dL_law_535 law_rok sh_l0 rfl (by decide) rfl rfl (Nat.le_of_ble_eq_true rfl) (L_set (d := 80) hI (xs (i + 1)) (xs (i + 2)) (xs (i + 3))) (fun r m1 h1 => ?_)
  refine V_aload_n 2 dL_law_538 rfl ?_
  refine V_aload_n 0 dL_law_539 rfl ?_
  refine V_iload_n 3 dL_law_540 rfl ?_
  refine V_iconst dL_law_541 rfl ?_
  refine V_iadd dL_law_542 ?_
  refine V_sld dL_law_543 (show nI i + 1 = nI (i + 1) from nI_add i 1) (by omega) hL ?_
  refine V_aload_n 0 dL_law_544 rfl ?_
  refine V_iload_n 3 dL_law_545 rfl ?_
  refine V_iconst dL_law_546 rfl ?_
  refine V_iadd dL_law_547 ?_
  refine V_sld dL_law_548 (show nI i + 2 = nI (i + 2) from nI_add i 2) (by omega) hL ?_
  refine V_aload_n 0 dL_law_549 rfl ?_
  refine V_iload_n 3 dL_law_550 rfl ?_
  refine V_iconst dL_law_551 rfl ?_
  refine V_iadd dL_law_552 ?_
  refine V_sld dL_law_553 (show nI i + 3 = nI (i + 3) from nI_add i 3) (by omega) hL ?_
  refine V_cVi [.int (xs (i + 1)), .int (xs (i + 2)), .int (xs (i + 3))] mvl_X9_set wl_81 dL_law_554 law_rok sh_a120 rfl (by decide) rfl rfl (Nat.le_of_ble_eq_true rfl) h1 (fun r2 m2 h2 => ?_)
  exact V_icmp_eq (tgt := 1445) dL_law_557 rfl ⟨fun _ => k m2 h2.2, fun q => absurd h2.1 q⟩
theorem law_deal (hL : L ≤ 3072) (hi : i + 6 ≤ L) (hI : INV mem) (k : ∀ m, INV m → Vw (NLaw b L xs) mL_law 1445 [(0, .ref 90002), (1, .ref 0), (2, .ref 120), (3, .int (nI i))] [] m) : Vw (NLaw b L xs) mL_law 562 [(0, .ref 90002), (1, .ref 0), (2, .ref 120), (3, .int (nI i))] [] mem := by
  refine V_aload_n 1 dL_law_562 rfl ?_
  refine V_aload_n 0 dL_law_563 rfl ?_
  refine V_iload_n 3 dL_law_564 rfl ?_
  refine V_iconst dL_law_565 rfl ?_
  refine V_iadd dL_law_566 ?_
  refine V_sld dL_law_567 (show nI i + 1 = nI (i + 1) from nI_add i 1) (by omega) hL ?_
  refine V_cVi [.int (xs (i + 1))] mvl_X8_deal wl_85 dL_law_568 law_rok sh_l0 rfl (by decide) rfl rfl (Nat.le_of_ble_eq_true rfl) (L_deal (d := 80) hI (xs (i + 1))) (fun r m1 h1 => ?_)
  refine V_aload_n 2 dL_law_571 rfl ?_
  refine V_aload_n 0 dL_law_572 rfl ?_
  refine V_iload_n 3 dL_law_573 rfl ?_
  refine V_iconst dL_law_574 rfl ?_
  refine V_iadd dL_law_575 ?_
  refine V_sld dL_law_576 (show nI i + 1 = nI (i + 1) from nI_add i 1) (by omega) hL ?_
  refine V_cVi [.int (xs (i + 1))] mvl_X9_deal wl_89 dL_law_577 law_rok sh_a120 rfl (by decide) rfl rfl (Nat.le_of_ble_eq_true rfl) h1 (fun r2 m2 h2 => ?_)
  exact V_icmp_eq (tgt := 1445) dL_law_580 rfl ⟨fun _ => k m2 h2.2, fun q => absurd h2.1 q⟩
theorem law_seed (hL : L ≤ 3072) (hi : i + 6 ≤ L) (hI : INV mem) (k : ∀ m, INV m → Vw (NLaw b L xs) mL_law 1445 [(0, .ref 90002), (1, .ref 0), (2, .ref 120), (3, .int (nI i))] [] m) : Vw (NLaw b L xs) mL_law 585 [(0, .ref 90002), (1, .ref 0), (2, .ref 120), (3, .int (nI i))] [] mem := by
  refine V_aload_n 1 dL_law_585 rfl ?_
  refine V_aload_n 0 dL_law_586 rfl ?_
  refine V_iload_n 3 dL_law_587 rfl ?_
  refine V_iconst dL_law_588 rfl ?_
  refine V_iadd dL_law_589 ?_
  refine V_sld dL_law_590 (show nI i + 1 = nI (i + 1) from nI_add i 1) (by omega) hL ?_
  refine V_cVi [.int (xs (i + 1))] mvl_X8_seed wl_93 dL_law_591 law_rok sh_l0 rfl (by decide) rfl rfl (Nat.le_of_ble_eq_true rfl) (L_seed (d := 80) hI (xs (i + 1))) (fun r m1 h1 => ?_)
  refine V_aload_n 2 dL_law_594 rfl ?_
  refine V_aload_n 0 dL_law_595 rfl ?_
  refine V_iload_n 3 dL_law_596 rfl ?_
  refine V_iconst dL_law_597 rfl ?_
  refine V_iadd dL_law_598 ?_
  refine V_sld dL_law_599 (show nI i + 1 = nI (i + 1) from nI_add i 1) (by omega) hL ?_
  refine V_cVi [.int (xs (i + 1))] mvl_X9_seed wl_97 dL_law_600 law_rok sh_a120 rfl (by decide) rfl rfl (Nat.le_of_ble_eq_true rfl) h1 (fun r2 m2 h2 => ?_)
  exact V_icmp_eq (tgt := 1445) dL_law_603 rfl ⟨fun _ => k m2 h2.2, fun q => absurd h2.1 q⟩
theorem law_hours (hL : L ≤ 3072) (hi : i + 6 ≤ L) (hI : INV mem) (k : ∀ m, INV m → Vw (NLaw b L xs) mL_law 1445 [(0, .ref 90002), (1, .ref 0), (2, .ref 120), (3, .int (nI i))] [] m) : Vw (NLaw b L xs) mL_law 608 [(0, .ref 90002), (1, .ref 0), (2, .ref 120), (3, .int (nI i))] [] mem := by
  refine V_aload_n 1 dL_law_608 rfl ?_
  refine V_aload_n 0 dL_law_609 rfl ?_
  refine V_iload_n 3 dL_law_610 rfl ?_
  refine V_iconst dL_law_611 rfl ?_
  refine V_iadd dL_law_612 ?_
  refine V_sld dL_law_613 (show nI i + 1 = nI (i + 1) from nI_add i 1) (by omega) hL ?_
  refine V_cVi [.int (xs (i + 1))] mvl_X8_hours wl_101 dL_law_614 law_rok sh_l0 rfl (by decide) rfl rfl (Nat.le_of_ble_eq_true rfl) (L_hours (d := 80) hI (xs (i + 1))) (fun r m1 h1 => ?_)
  refine V_aload_n 2 dL_law_617 rfl ?_
  refine V_aload_n 0 dL_law_618 rfl ?_
  refine V_iload_n 3 dL_law_619 rfl ?_
  refine V_iconst dL_law_620 rfl ?_
  refine V_iadd dL_law_621 ?_
  refine V_sld dL_law_622 (show nI i + 1 = nI (i + 1) from nI_add i 1) (by omega) hL ?_
  refine V_cVi [.int (xs (i + 1))] mvl_X9_hours wl_105 dL_law_623 law_rok sh_a120 rfl (by decide) rfl rfl (Nat.le_of_ble_eq_true rfl) h1 (fun r2 m2 h2 => ?_)
  exact V_icmp_eq (tgt := 1445) dL_law_626 rfl ⟨fun _ => k m2 h2.2, fun q => absurd h2.1 q⟩
theorem law_night (hL : L ≤ 3072) (hi : i + 6 ≤ L) (hI : INV mem) (k : ∀ m, INV m → Vw (NLaw b L xs) mL_law 1445 [(0, .ref 90002), (1, .ref 0), (2, .ref 120), (3, .int (nI i))] [] m) : Vw (NLaw b L xs) mL_law 631 [(0, .ref 90002), (1, .ref 0), (2, .ref 120), (3, .int (nI i))] [] mem := by
  refine V_aload_n 1 dL_law_631 rfl ?_
  refine V_aload_n 0 dL_law_632 rfl ?_
  refine V_iload_n 3 dL_law_633 rfl ?_
  refine V_iconst dL_law_634 rfl ?_
  refine V_iadd dL_law_635 ?_
  refine V_sld dL_law_636 (show nI i + 1 = nI (i + 1) from nI_add i 1) (by omega) hL ?_
  refine V_cVi [.int (xs (i + 1))] mvl_X8_night wl_109 dL_law_637 law_rok sh_l0 rfl (by decide) rfl rfl (Nat.le_of_ble_eq_true rfl) (L_night (d := 80) hI (xs (i + 1))) (fun r m1 h1 => ?_)
  refine V_aload_n 2 dL_law_640 rfl ?_
  refine V_aload_n 0 dL_law_641 rfl ?_
  refine V_iload_n 3 dL_law_642 rfl ?_
  refine V_iconst dL_law_643 rfl ?_
  refine V_iadd dL_law_644 ?_
  refine V_sld dL_law_645 (show nI i + 1 = nI (i + 1) from nI_add i 1) (by omega) hL ?_
  refine V_cVi [.int (xs (i + 1))] mvl_X9_night wl_113 dL_law_646 law_rok sh_a120 rfl (by decide) rfl rfl (Nat.le_of_ble_eq_true rfl) h1 (fun r2 m2 h2 => ?_)
  exact V_icmp_eq (tgt := 1445) dL_law_649 rfl ⟨fun _ => k m2 h2.2, fun q => absurd h2.1 q⟩
theorem law_behind (hL : L ≤ 3072) (hi : i + 6 ≤ L) (hI : INV mem) (k : ∀ m, INV m → Vw (NLaw b L xs) mL_law 1445 [(0, .ref 90002), (1, .ref 0), (2, .ref 120), (3, .int (nI i))] [] m) : Vw (NLaw b L xs) mL_law 654 [(0, .ref 90002), (1, .ref 0), (2, .ref 120), (3, .int (nI i))] [] mem := by
  refine V_aload_n 1 dL_law_654 rfl ?_
  refine V_aload_n 0 dL_law_655 rfl ?_
  refine V_iload_n 3 dL_law_656 rfl ?_
  refine V_iconst dL_law_657 rfl ?_
  refine V_iadd dL_law_658 ?_
  refine V_sld dL_law_659 (show nI i + 1 = nI (i + 1) from nI_add i 1) (by omega) hL ?_
  refine V_aload_n 0 dL_law_660 rfl ?_
  refine V_iload_n 3 dL_law_661 rfl ?_
  refine V_iconst dL_law_662 rfl ?_
  refine V_iadd dL_law_663 ?_
  refine V_sld dL_law_664 (show nI i + 2 = nI (i + 2) from nI_add i 2) (by omega) hL ?_
  refine V_cVi [.int (xs (i + 1)), .int (xs (i + 2))] mvl_X8_behind wl_117 dL_law_665 law_rok sh_l0 rfl (by decide) rfl rfl (Nat.le_of_ble_eq_true rfl) (L_behind (d := 80) hI (xs (i + 1)) (xs (i + 2))) (fun r m1 h1 => ?_)
  refine V_aload_n 2 dL_law_668 rfl ?_
  refine V_aload_n 0 dL_law_669 rfl ?_
  refine V_iload_n 3 dL_law_670 rfl ?_
  refine V_iconst dL_law_671 rfl ?_
  refine V_iadd dL_law_672 ?_
  refine V_sld dL_law_673 (show nI i + 1 = nI (i + 1) from nI_add i 1) (by omega) hL ?_
  refine V_aload_n 0 dL_law_674 rfl ?_
  refine V_iload_n 3 dL_law_675 rfl ?_
  refine V_iconst dL_law_676 rfl ?_
  refine V_iadd dL_law_677 ?_
  refine V_sld dL_law_678 (show nI i + 2 = nI (i + 2) from nI_add i 2) (by omega) hL ?_
  refine V_cVi [.int (xs (i + 1)), .int (xs (i + 2))] mvl_X9_behind wl_121 dL_law_679 law_rok sh_a120 rfl (by decide) rfl rfl (Nat.le_of_ble_eq_true rfl) h1 (fun r2 m2 h2 => ?_)
  exact V_icmp_eq (tgt := 1445) dL_law_682 rfl ⟨fun _ => k m2 h2.2, fun q => absurd h2.1 q⟩
theorem law_lasts (hL : L ≤ 3072) (hi : i + 6 ≤ L) (hI : INV mem) (k : ∀ m, INV m → Vw (NLaw b L xs) mL_law 1445 [(0, .ref 90002), (1, .ref 0), (2, .ref 120), (3, .int (nI i))] [] m) : Vw (NLaw b L xs) mL_law 687 [(0, .ref 90002), (1, .ref 0), (2, .ref 120), (3, .int (nI i))] [] mem := by
  refine V_aload_n 1 dL_law_687 rfl ?_
  refine V_cVi [] mvl_X8_lasts wl_125 dL_law_688 law_rok sh_l0 rfl (by decide) rfl rfl (Nat.le_of_ble_eq_true rfl) (L_lasts (d := 80) hI) (fun r m1 h1 => ?_)
  refine V_aload_n 2 dL_law_691 rfl ?_
  refine V_cVi [] mvl_X9_lasts wl_129 dL_law_692 law_rok sh_a120 rfl (by decide) rfl rfl (Nat.le_of_ble_eq_true rfl) h1 (fun r2 m2 h2 => ?_)
  exact V_icmp_eq (tgt := 1445) dL_law_695 rfl ⟨fun _ => k m2 h2.2, fun q => absurd h2.1 q⟩
theorem law_loss (hL : L ≤ 3072) (hi : i + 6 ≤ L) (hI : INV mem) (k : ∀ m, INV m → Vw (NLaw b L xs) mL_law 1445 [(0, .ref 90002), (1, .ref 0), (2, .ref 120), (3, .int (nI i))] [] m) : Vw (NLaw b L xs) mL_law 700 [(0, .ref 90002), (1, .ref 0), (2, .ref 120), (3, .int (nI i))] [] mem := by
  refine V_aload_n 1 dL_law_700 rfl ?_
  refine V_cVi [] mvl_X8_loss wl_133 dL_law_701 law_rok sh_l0 rfl (by decide) rfl rfl (Nat.le_of_ble_eq_true rfl) (L_loss (d := 80) hI) (fun r m1 h1 => ?_)
  refine V_aload_n 2 dL_law_704 rfl ?_
  refine V_cVi [] mvl_X9_loss wl_137 dL_law_705 law_rok sh_a120 rfl (by decide) rfl rfl (Nat.le_of_ble_eq_true rfl) h1 (fun r2 m2 h2 => ?_)
  exact V_icmp_eq (tgt := 1445) dL_law_708 rfl ⟨fun _ => k m2 h2.2, fun q => absurd h2.1 q⟩
theorem law_dark (hL : L ≤ 3072) (hi : i + 6 ≤ L) (hI : INV mem) (k : ∀ m, INV m → Vw (NLaw b L xs) mL_law 1445 [(0, .ref 90002), (1, .ref 0), (2, .ref 120), (3, .int (nI i))] [] m) : Vw (NLaw b L xs) mL_law 713 [(0, .ref 90002), (1, .ref 0), (2, .ref 120), (3, .int (nI i))] [] mem := by
  refine V_aload_n 1 dL_law_713 rfl ?_
  refine V_aload_n 0 dL_law_714 rfl ?_
  refine V_iload_n 3 dL_law_715 rfl ?_
  refine V_iconst dL_law_716 rfl ?_
  refine V_iadd dL_law_717 ?_
  refine V_sld dL_law_718 (show nI i + 1 = nI (i + 1) from nI_add i 1) (by omega) hL ?_
  refine V_cVi [.int (xs (i + 1))] mvl_X8_dark wl_141 dL_law_719 law_rok sh_l0 rfl (by decide) rfl rfl (Nat.le_of_ble_eq_true rfl) (L_dark (d := 80) hI (xs (i + 1))) (fun r m1 h1 => ?_)
  refine V_aload_n 2 dL_law_722 rfl ?_
  refine V_aload_n 0 dL_law_723 rfl ?_
  refine V_iload_n 3 dL_law_724 rfl ?_
  refine V_iconst dL_law_725 rfl ?_
  refine V_iadd dL_law_726 ?_
  refine V_sld dL_law_727 (show nI i + 1 = nI (i + 1) from nI_add i 1) (by omega) hL ?_
  refine V_cVi [.int (xs (i + 1))] mvl_X9_dark wl_145 dL_law_728 law_rok sh_a120 rfl (by decide) rfl rfl (Nat.le_of_ble_eq_true rfl) h1 (fun r2 m2 h2 => ?_)
  exact V_icmp_eq (tgt := 1445) dL_law_731 rfl ⟨fun _ => k m2 h2.2, fun q => absurd h2.1 q⟩
theorem law_fires (hL : L ≤ 3072) (hi : i + 6 ≤ L) (hI : INV mem) (k : ∀ m, INV m → Vw (NLaw b L xs) mL_law 1445 [(0, .ref 90002), (1, .ref 0), (2, .ref 120), (3, .int (nI i))] [] m) : Vw (NLaw b L xs) mL_law 736 [(0, .ref 90002), (1, .ref 0), (2, .ref 120), (3, .int (nI i))] [] mem := by
  refine V_aload_n 1 dL_law_736 rfl ?_
  refine V_aload_n 0 dL_law_737 rfl ?_
  refine V_iload_n 3 dL_law_738 rfl ?_
  refine V_iconst dL_law_739 rfl ?_
  refine V_iadd dL_law_740 ?_
  refine V_sld dL_law_741 (show nI i + 1 = nI (i + 1) from nI_add i 1) (by omega) hL ?_
  refine V_aload_n 0 dL_law_742 rfl ?_
  refine V_iload_n 3 dL_law_743 rfl ?_
  refine V_iconst dL_law_744 rfl ?_
  refine V_iadd dL_law_745 ?_
  refine V_sld dL_law_746 (show nI i + 2 = nI (i + 2) from nI_add i 2) (by omega) hL ?_
  refine V_cVi [.int (xs (i + 1)), .int (xs (i + 2))] mvl_X8_fires wl_149 dL_law_747 law_rok sh_l0 rfl (by decide) rfl rfl (Nat.le_of_ble_eq_true rfl) (L_fires (d := 80) hI (xs (i + 1)) (xs (i + 2))) (fun r m1 h1 => ?_)
  refine V_aload_n 2 dL_law_750 rfl ?_
  refine V_aload_n 0 dL_law_751 rfl ?_
  refine V_iload_n 3 dL_law_752 rfl ?_
  refine V_iconst dL_law_753 rfl ?_
  refine V_iadd dL_law_754 ?_
  refine V_sld dL_law_755 (show nI i + 1 = nI (i + 1) from nI_add i 1) (by omega) hL ?_
  refine V_aload_n 0 dL_law_756 rfl ?_
  refine V_iload_n 3 dL_law_757 rfl ?_
  refine V_iconst dL_law_758 rfl ?_
  refine V_iadd dL_law_759 ?_
  refine V_sld dL_law_760 (show nI i + 2 = nI (i + 2) from nI_add i 2) (by omega) hL ?_
  refine V_cVi [.int (xs (i + 1)), .int (xs (i + 2))] mvl_X9_fires wl_153 dL_law_761 law_rok sh_a120 rfl (by decide) rfl rfl (Nat.le_of_ble_eq_true rfl) h1 (fun r2 m2 h2 => ?_)
  exact V_icmp_eq (tgt := 1445) dL_law_764 rfl ⟨fun _ => k m2 h2.2, fun q => absurd h2.1 q⟩
theorem law_watch (hL : L ≤ 3072) (hi : i + 6 ≤ L) (hI : INV mem) (k : ∀ m, INV m → Vw (NLaw b L xs) mL_law 1445 [(0, .ref 90002), (1, .ref 0), (2, .ref 120), (3, .int (nI i))] [] m) : Vw (NLaw b L xs) mL_law 769 [(0, .ref 90002), (1, .ref 0), (2, .ref 120), (3, .int (nI i))] [] mem := by
  refine V_aload_n 1 dL_law_769 rfl ?_
  refine V_aload_n 0 dL_law_770 rfl ?_
  refine V_iload_n 3 dL_law_771 rfl ?_
  refine V_iconst dL_law_772 rfl ?_
  refine V_iadd dL_law_773 ?_
  refine V_sld dL_law_774 (show nI i + 1 = nI (i + 1) from nI_add i 1) (by omega) hL ?_
  refine V_aload_n 0 dL_law_775 rfl ?_
  refine V_iload_n 3 dL_law_776 rfl ?_
  refine V_iconst dL_law_777 rfl ?_
  refine V_iadd dL_law_778 ?_
  refine V_sld dL_law_779 (show nI i + 2 = nI (i + 2) from nI_add i 2) (by omega) hL ?_
  refine V_cVi [.int (xs (i + 1)), .int (xs (i + 2))] mvl_X8_watch wl_157 dL_law_780 law_rok sh_l0 rfl (by decide) rfl rfl (Nat.le_of_ble_eq_true rfl) (L_watch (d := 80) hI (xs (i + 1)) (xs (i + 2))) (fun r m1 h1 => ?_)
  refine V_aload_n 2 dL_law_783 rfl ?_
  refine V_aload_n 0 dL_law_784 rfl ?_
  refine V_iload_n 3 dL_law_785 rfl ?_
  refine V_iconst dL_law_786 rfl ?_
  refine V_iadd dL_law_787 ?_
  refine V_sld dL_law_788 (show nI i + 1 = nI (i + 1) from nI_add i 1) (by omega) hL ?_
  refine V_aload_n 0 dL_law_789 rfl ?_
  refine V_iload_n 3 dL_law_790 rfl ?_
  refine V_iconst dL_law_791 rfl ?_
  refine V_iadd dL_law_792 ?_
  refine V_sld dL_law_793 (show nI i + 2 = nI (i + 2) from nI_add i 2) (by omega) hL ?_
  refine V_cVi [.int (xs (i + 1)), .int (xs (i + 2))] mvl_X9_watch wl_161 dL_law_794 law_rok sh_a120 rfl (by decide) rfl rfl (Nat.le_of_ble_eq_true rfl) h1 (fun r2 m2 h2 => ?_)
  exact V_icmp_eq (tgt := 1445) dL_law_797 rfl ⟨fun _ => k m2 h2.2, fun q => absurd h2.1 q⟩
theorem law_place (hL : L ≤ 3072) (hi : i + 6 ≤ L) (hI : INV mem) (k : ∀ m, INV m → Vw (NLaw b L xs) mL_law 1445 [(0, .ref 90002), (1, .ref 0), (2, .ref 120), (3, .int (nI i))] [] m) : Vw (NLaw b L xs) mL_law 802 [(0, .ref 90002), (1, .ref 0), (2, .ref 120), (3, .int (nI i))] [] mem := by
  refine V_aload_n 1 dL_law_802 rfl ?_
  refine V_aload_n 0 dL_law_803 rfl ?_
  refine V_iload_n 3 dL_law_804 rfl ?_
  refine V_iconst dL_law_805 rfl ?_
  refine V_iadd dL_law_806 ?_
  refine V_sld dL_law_807 (show nI i + 1 = nI (i + 1) from nI_add i 1) (by omega) hL ?_
  refine V_aload_n 0 dL_law_808 rfl ?_
  refine V_iload_n 3 dL_law_809 rfl ?_
  refine V_iconst dL_law_810 rfl ?_
  refine V_iadd dL_law_811 ?_
  refine V_sld dL_law_812 (show nI i + 2 = nI (i + 2) from nI_add i 2) (by omega) hL ?_
  refine V_cVi [.int (xs (i + 1)), .int (xs (i + 2))] mvl_X8_place wl_165 dL_law_813 law_rok sh_l0 rfl (by decide) rfl rfl (Nat.le_of_ble_eq_true rfl) (L_place (d := 80) hI (xs (i + 1)) (xs (i + 2))) (fun r m1 h1 => ?_)
  refine V_aload_n 2 dL_law_816 rfl ?_
  refine V_aload_n 0 dL_law_817 rfl ?_
  refine V_iload_n 3 dL_law_818 rfl ?_
  refine V_iconst dL_law_819 rfl ?_
  refine V_iadd dL_law_820 ?_
  refine V_sld dL_law_821 (show nI i + 1 = nI (i + 1) from nI_add i 1) (by omega) hL ?_
  refine V_aload_n 0 dL_law_822 rfl ?_
  refine V_iload_n 3 dL_law_823 rfl ?_
  refine V_iconst dL_law_824 rfl ?_
  refine V_iadd dL_law_825 ?_
  refine V_sld dL_law_826 (show nI i + 2 = nI (i + 2) from nI_add i 2) (by omega) hL ?_
  refine V_cVi [.int (xs (i + 1)), .int (xs (i + 2))] mvl_X9_place wl_169 dL_law_827 law_rok sh_a120 rfl (by decide) rfl rfl (Nat.le_of_ble_eq_true rfl) h1 (fun r2 m2 h2 => ?_)
  exact V_icmp_eq (tgt := 1445) dL_law_830 rfl ⟨fun _ => k m2 h2.2, fun q => absurd h2.1 q⟩
theorem law_signs (hL : L ≤ 3072) (hi : i + 6 ≤ L) (hI : INV mem) (k : ∀ m, INV m → Vw (NLaw b L xs) mL_law 1445 [(0, .ref 90002), (1, .ref 0), (2, .ref 120), (3, .int (nI i))] [] m) : Vw (NLaw b L xs) mL_law 835 [(0, .ref 90002), (1, .ref 0), (2, .ref 120), (3, .int (nI i))] [] mem := by
  refine V_aload_n 1 dL_law_835 rfl ?_
  refine V_aload_n 0 dL_law_836 rfl ?_
  refine V_iload_n 3 dL_law_837 rfl ?_
  refine V_iconst dL_law_838 rfl ?_
  refine V_iadd dL_law_839 ?_
  refine V_sld dL_law_840 (show nI i + 1 = nI (i + 1) from nI_add i 1) (by omega) hL ?_
  refine V_aload_n 0 dL_law_841 rfl ?_
  refine V_iload_n 3 dL_law_842 rfl ?_
  refine V_iconst dL_law_843 rfl ?_
  refine V_iadd dL_law_844 ?_
  refine V_sld dL_law_845 (show nI i + 2 = nI (i + 2) from nI_add i 2) (by omega) hL ?_
  refine V_aload_n 0 dL_law_846 rfl ?_
  refine V_iload_n 3 dL_law_847 rfl ?_
  refine V_iconst dL_law_848 rfl ?_
  refine V_iadd dL_law_849 ?_
  refine V_sld dL_law_850 (show nI i + 3 = nI (i + 3) from nI_add i 3) (by omega) hL ?_
  refine V_cVi [.int (xs (i + 1)), .int (xs (i + 2)), .int (xs (i + 3))] mvl_X8_signs wl_173 dL_law_851 law_rok sh_l0 rfl (by decide) rfl rfl (Nat.le_of_ble_eq_true rfl) (L_signs (d := 80) hI (xs (i + 1)) (xs (i + 2)) (xs (i + 3))) (fun r m1 h1 => ?_)
  refine V_aload_n 2 dL_law_854 rfl ?_
  refine V_aload_n 0 dL_law_855 rfl ?_
  refine V_iload_n 3 dL_law_856 rfl ?_
  refine V_iconst dL_law_857 rfl ?_
  refine V_iadd dL_law_858 ?_
  refine V_sld dL_law_859 (show nI i + 1 = nI (i + 1) from nI_add i 1) (by omega) hL ?_
  refine V_aload_n 0 dL_law_860 rfl ?_
  refine V_iload_n 3 dL_law_861 rfl ?_
  refine V_iconst dL_law_862 rfl ?_
  refine V_iadd dL_law_863 ?_
  refine V_sld dL_law_864 (show nI i + 2 = nI (i + 2) from nI_add i 2) (by omega) hL ?_
  refine V_aload_n 0 dL_law_865 rfl ?_
  refine V_iload_n 3 dL_law_866 rfl ?_
  refine V_iconst dL_law_867 rfl ?_
  refine V_iadd dL_law_868 ?_
  refine V_sld dL_law_869 (show nI i + 3 = nI (i + 3) from nI_add i 3) (by omega) hL ?_
  refine V_cVi [.int (xs (i + 1)), .int (xs (i + 2)), .int (xs (i + 3))] mvl_X9_signs wl_177 dL_law_870 law_rok sh_a120 rfl (by decide) rfl rfl (Nat.le_of_ble_eq_true rfl) h1 (fun r2 m2 h2 => ?_)
  exact V_icmp_eq (tgt := 1445) dL_law_873 rfl ⟨fun _ => k m2 h2.2, fun q => absurd h2.1 q⟩
theorem law_feed (hL : L ≤ 3072) (hi : i + 6 ≤ L) (hI : INV mem) (k : ∀ m, INV m → Vw (NLaw b L xs) mL_law 1445 [(0, .ref 90002), (1, .ref 0), (2, .ref 120), (3, .int (nI i))] [] m) : Vw (NLaw b L xs) mL_law 878 [(0, .ref 90002), (1, .ref 0), (2, .ref 120), (3, .int (nI i))] [] mem := by
  refine V_aload_n 1 dL_law_878 rfl ?_
  refine V_aload_n 0 dL_law_879 rfl ?_
  refine V_iload_n 3 dL_law_880 rfl ?_
  refine V_iconst dL_law_881 rfl ?_
  refine V_iadd dL_law_882 ?_
  refine V_sld dL_law_883 (show nI i + 1 = nI (i + 1) from nI_add i 1) (by omega) hL ?_
  refine V_aload_n 0 dL_law_884 rfl ?_
  refine V_iload_n 3 dL_law_885 rfl ?_
  refine V_iconst dL_law_886 rfl ?_
  refine V_iadd dL_law_887 ?_
  refine V_sld dL_law_888 (show nI i + 2 = nI (i + 2) from nI_add i 2) (by omega) hL ?_
  refine V_aload_n 0 dL_law_889 rfl ?_
  refine V_iload_n 3 dL_law_890 rfl ?_
  refine V_iconst dL_law_891 rfl ?_
  refine V_iadd dL_law_892 ?_
  refine V_sld dL_law_893 (show nI i + 3 = nI (i + 3) from nI_add i 3) (by omega) hL ?_
  refine V_cVi [.int (xs (i + 1)), .int (xs (i + 2)), .int (xs (i + 3))] mvl_X8_feed wl_181 dL_law_894 law_rok sh_l0 rfl (by decide) rfl rfl (Nat.le_of_ble_eq_true rfl) (L_feed (d := 80) hI (xs (i + 1)) (xs (i + 2)) (xs (i + 3))) (fun r m1 h1 => ?_)
  refine V_aload_n 2 dL_law_897 rfl ?_
  refine V_aload_n 0 dL_law_898 rfl ?_
  refine V_iload_n 3 dL_law_899 rfl ?_
  refine V_iconst dL_law_900 rfl ?_
  refine V_iadd dL_law_901 ?_
  refine V_sld dL_law_902 (show nI i + 1 = nI (i + 1) from nI_add i 1) (by omega) hL ?_
  refine V_aload_n 0 dL_law_903 rfl ?_
  refine V_iload_n 3 dL_law_904 rfl ?_
  refine V_iconst dL_law_905 rfl ?_
  refine V_iadd dL_law_906 ?_
  refine V_sld dL_law_907 (show nI i + 2 = nI (i + 2) from nI_add i 2) (by omega) hL ?_
  refine V_aload_n 0 dL_law_908 rfl ?_
  refine V_iload_n 3 dL_law_909 rfl ?_
  refine V_iconst dL_law_910 rfl ?_
  refine V_iadd dL_law_911 ?_
  refine V_sld dL_law_912 (show nI i + 3 = nI (i + 3) from nI_add i 3) (by omega) hL ?_
  refine V_cVi [.int (xs (i + 1)), .int (xs (i + 2)), .int (xs (i + 3))] mvl_X9_feed wl_185 dL_law_913 law_rok sh_a120 rfl (by decide) rfl rfl (Nat.le_of_ble_eq_true rfl) h1 (fun r2 m2 h2 => ?_)
  exact V_icmp_eq (tgt := 1445) dL_law_916 rfl ⟨fun _ => k m2 h2.2, fun q => absurd h2.1 q⟩
theorem law_trim (hL : L ≤ 3072) (hi : i + 6 ≤ L) (hI : INV mem) (k : ∀ m, INV m → Vw (NLaw b L xs) mL_law 1445 [(0, .ref 90002), (1, .ref 0), (2, .ref 120), (3, .int (nI i))] [] m) : Vw (NLaw b L xs) mL_law 921 [(0, .ref 90002), (1, .ref 0), (2, .ref 120), (3, .int (nI i))] [] mem := by
  refine V_aload_n 1 dL_law_921 rfl ?_
  refine V_aload_n 0 dL_law_922 rfl ?_
  refine V_iload_n 3 dL_law_923 rfl ?_
  refine V_iconst dL_law_924 rfl ?_
  refine V_iadd dL_law_925 ?_
  refine V_sld dL_law_926 (show nI i + 1 = nI (i + 1) from nI_add i 1) (by omega) hL ?_
  refine V_cVi [.int (xs (i + 1))] mvl_X8_trim wl_189 dL_law_927 law_rok sh_l0 rfl (by decide) rfl rfl (Nat.le_of_ble_eq_true rfl) (L_trim (d := 80) hI (xs (i + 1))) (fun r m1 h1 => ?_)
  refine V_aload_n 2 dL_law_930 rfl ?_
  refine V_aload_n 0 dL_law_931 rfl ?_
  refine V_iload_n 3 dL_law_932 rfl ?_
  refine V_iconst dL_law_933 rfl ?_
  refine V_iadd dL_law_934 ?_
  refine V_sld dL_law_935 (show nI i + 1 = nI (i + 1) from nI_add i 1) (by omega) hL ?_
  refine V_cVi [.int (xs (i + 1))] mvl_X9_trim wl_193 dL_law_936 law_rok sh_a120 rfl (by decide) rfl rfl (Nat.le_of_ble_eq_true rfl) h1 (fun r2 m2 h2 => ?_)
  exact V_icmp_eq (tgt := 1445) dL_law_939 rfl ⟨fun _ => k m2 h2.2, fun q => absurd h2.1 q⟩
theorem law_text (hL : L ≤ 3072) (hi : i + 6 ≤ L) (hI : INV mem) (k : ∀ m, INV m → Vw (NLaw b L xs) mL_law 1445 [(0, .ref 90002), (1, .ref 0), (2, .ref 120), (3, .int (nI i))] [] m) : Vw (NLaw b L xs) mL_law 944 [(0, .ref 90002), (1, .ref 0), (2, .ref 120), (3, .int (nI i))] [] mem := by
  refine V_aload_n 1 dL_law_944 rfl ?_
  refine V_cVi [] mvl_X8_text wl_197 dL_law_945 law_rok sh_l0 rfl (by decide) rfl rfl (Nat.le_of_ble_eq_true rfl) (L_text (d := 20) hI) (fun r m1 h1 => ?_)
  refine V_aload_n 2 dL_law_948 rfl ?_
  refine V_cVi [] mvl_X9_text wl_201 dL_law_949 law_rok sh_a120 rfl (by decide) rfl rfl (Nat.le_of_ble_eq_true rfl) h1 (fun r2 m2 h2 => ?_)
  exact V_icmp_eq (tgt := 1445) dL_law_952 rfl ⟨fun _ => k m2 h2.2, fun q => absurd h2.1 q⟩
theorem law_textTold (hL : L ≤ 3072) (hi : i + 6 ≤ L) (hI : INV mem) (k : ∀ m, INV m → Vw (NLaw b L xs) mL_law 1445 [(0, .ref 90002), (1, .ref 0), (2, .ref 120), (3, .int (nI i))] [] m) : Vw (NLaw b L xs) mL_law 957 [(0, .ref 90002), (1, .ref 0), (2, .ref 120), (3, .int (nI i))] [] mem := by
  refine V_aload_n 1 dL_law_957 rfl ?_
  refine V_aload_n 0 dL_law_958 rfl ?_
  refine V_iload_n 3 dL_law_959 rfl ?_
  refine V_iconst dL_law_960 rfl ?_
  refine V_iadd dL_law_961 ?_
  refine V_sld dL_law_962 (show nI i + 1 = nI (i + 1) from nI_add i 1) (by omega) hL ?_
  refine V_aload_n 0 dL_law_963 rfl ?_
  refine V_iload_n 3 dL_law_964 rfl ?_
  refine V_iconst dL_law_965 rfl ?_
  refine V_iadd dL_law_966 ?_
  refine V_sld dL_law_967 (show nI i + 2 = nI (i + 2) from nI_add i 2) (by omega) hL ?_
  refine V_cVi [.int (xs (i + 1)), .int (xs (i + 2))] mvl_X8_textTold wl_205 dL_law_968 law_rok sh_l0 rfl (by decide) rfl rfl (Nat.le_of_ble_eq_true rfl) (L_textTold (d := 80) hI (xs (i + 1)) (xs (i + 2))) (fun r m1 h1 => ?_)
  refine V_aload_n 2 dL_law_971 rfl ?_
  refine V_aload_n 0 dL_law_972 rfl ?_
  refine V_iload_n 3 dL_law_973 rfl ?_
  refine V_iconst dL_law_974 rfl ?_
  refine V_iadd dL_law_975 ?_
  refine V_sld dL_law_976 (show nI i + 1 = nI (i + 1) from nI_add i 1) (by omega) hL ?_
  refine V_aload_n 0 dL_law_977 rfl ?_
  refine V_iload_n 3 dL_law_978 rfl ?_
  refine V_iconst dL_law_979 rfl ?_
  refine V_iadd dL_law_980 ?_
  refine V_sld dL_law_981 (show nI i + 2 = nI (i + 2) from nI_add i 2) (by omega) hL ?_
  refine V_cVi [.int (xs (i + 1)), .int (xs (i + 2))] mvl_X9_textTold wl_209 dL_law_982 law_rok sh_a120 rfl (by decide) rfl rfl (Nat.le_of_ble_eq_true rfl) h1 (fun r2 m2 h2 => ?_)
  exact V_icmp_eq (tgt := 1445) dL_law_985 rfl ⟨fun _ => k m2 h2.2, fun q => absurd h2.1 q⟩
theorem law_why (hL : L ≤ 3072) (hi : i + 6 ≤ L) (hI : INV mem) (k : ∀ m, INV m → Vw (NLaw b L xs) mL_law 1445 [(0, .ref 90002), (1, .ref 0), (2, .ref 120), (3, .int (nI i))] [] m) : Vw (NLaw b L xs) mL_law 990 [(0, .ref 90002), (1, .ref 0), (2, .ref 120), (3, .int (nI i))] [] mem := by
  refine V_aload_n 1 dL_law_990 rfl ?_
  refine V_aload_n 0 dL_law_991 rfl ?_
  refine V_iload_n 3 dL_law_992 rfl ?_
  refine V_iconst dL_law_993 rfl ?_
  refine V_iadd dL_law_994 ?_
  refine V_sld dL_law_995 (show nI i + 1 = nI (i + 1) from nI_add i 1) (by omega) hL ?_
  refine V_cVi [.int (xs (i + 1))] mvl_X8_why wl_213 dL_law_996 law_rok sh_l0 rfl (by decide) rfl rfl (Nat.le_of_ble_eq_true rfl) (L_why (d := 80) hI (xs (i + 1))) (fun r m1 h1 => ?_)
  refine V_aload_n 2 dL_law_999 rfl ?_
  refine V_aload_n 0 dL_law_1000 rfl ?_
  refine V_iload_n 3 dL_law_1001 rfl ?_
  refine V_iconst dL_law_1002 rfl ?_
  refine V_iadd dL_law_1003 ?_
  refine V_sld dL_law_1004 (show nI i + 1 = nI (i + 1) from nI_add i 1) (by omega) hL ?_
  refine V_cVi [.int (xs (i + 1))] mvl_X9_why wl_217 dL_law_1005 law_rok sh_a120 rfl (by decide) rfl rfl (Nat.le_of_ble_eq_true rfl) h1 (fun r2 m2 h2 => ?_)
  exact V_icmp_eq (tgt := 1445) dL_law_1008 rfl ⟨fun _ => k m2 h2.2, fun q => absurd h2.1 q⟩
theorem law_sheet (hL : L ≤ 3072) (hi : i + 6 ≤ L) (hI : INV mem) (k : ∀ m, INV m → Vw (NLaw b L xs) mL_law 1445 [(0, .ref 90002), (1, .ref 0), (2, .ref 120), (3, .int (nI i))] [] m) : Vw (NLaw b L xs) mL_law 1013 [(0, .ref 90002), (1, .ref 0), (2, .ref 120), (3, .int (nI i))] [] mem := by
  refine V_aload_n 1 dL_law_1013 rfl ?_
  refine V_aload_n 0 dL_law_1014 rfl ?_
  refine V_iload_n 3 dL_law_1015 rfl ?_
  refine V_iconst dL_law_1016 rfl ?_
  refine V_iadd dL_law_1017 ?_
  refine V_sld dL_law_1018 (show nI i + 1 = nI (i + 1) from nI_add i 1) (by omega) hL ?_
  refine V_aload_n 0 dL_law_1019 rfl ?_
  refine V_iload_n 3 dL_law_1020 rfl ?_
  refine V_iconst dL_law_1021 rfl ?_
  refine V_iadd dL_law_1022 ?_
  refine V_sld dL_law_1023 (show nI i + 2 = nI (i + 2) from nI_add i 2) (by omega) hL ?_
  refine V_aload_n 0 dL_law_1024 rfl ?_
  refine V_iload_n 3 dL_law_1025 rfl ?_
  refine V_iconst dL_law_1026 rfl ?_
  refine V_iadd dL_law_1027 ?_
  refine V_sld dL_law_1028 (show nI i + 3 = nI (i + 3) from nI_add i 3) (by omega) hL ?_
  refine V_cVi [.int (xs (i + 1)), .int (xs (i + 2)), .int (xs (i + 3))] mvl_X8_sheet wl_221 dL_law_1029 law_rok sh_l0 rfl (by decide) rfl rfl (Nat.le_of_ble_eq_true rfl) (L_sheet (d := 80) hI (xs (i + 1)) (xs (i + 2)) (xs (i + 3))) (fun r m1 h1 => ?_)
  refine V_aload_n 2 dL_law_1032 rfl ?_
  refine V_aload_n 0 dL_law_1033 rfl ?_
  refine V_iload_n 3 dL_law_1034 rfl ?_
  refine V_iconst dL_law_1035 rfl ?_
  refine V_iadd dL_law_1036 ?_
  refine V_sld dL_law_1037 (show nI i + 1 = nI (i + 1) from nI_add i 1) (by omega) hL ?_
  refine V_aload_n 0 dL_law_1038 rfl ?_
  refine V_iload_n 3 dL_law_1039 rfl ?_
  refine V_iconst dL_law_1040 rfl ?_
  refine V_iadd dL_law_1041 ?_
  refine V_sld dL_law_1042 (show nI i + 2 = nI (i + 2) from nI_add i 2) (by omega) hL ?_
  refine V_aload_n 0 dL_law_1043 rfl ?_
  refine V_iload_n 3 dL_law_1044 rfl ?_
  refine V_iconst dL_law_1045 rfl ?_
  refine V_iadd dL_law_1046 ?_
  refine V_sld dL_law_1047 (show nI i + 3 = nI (i + 3) from nI_add i 3) (by omega) hL ?_
  refine V_cVi [.int (xs (i + 1)), .int (xs (i + 2)), .int (xs (i + 3))] mvl_X9_sheet wl_225 dL_law_1048 law_rok sh_a120 rfl (by decide) rfl rfl (Nat.le_of_ble_eq_true rfl) h1 (fun r2 m2 h2 => ?_)
  exact V_icmp_eq (tgt := 1445) dL_law_1051 rfl ⟨fun _ => k m2 h2.2, fun q => absurd h2.1 q⟩
theorem law_mark (hL : L ≤ 3072) (hi : i + 6 ≤ L) (hI : INV mem) (k : ∀ m, INV m → Vw (NLaw b L xs) mL_law 1445 [(0, .ref 90002), (1, .ref 0), (2, .ref 120), (3, .int (nI i))] [] m) : Vw (NLaw b L xs) mL_law 1056 [(0, .ref 90002), (1, .ref 0), (2, .ref 120), (3, .int (nI i))] [] mem := by
  refine V_aload_n 1 dL_law_1056 rfl ?_
  refine V_aload_n 0 dL_law_1057 rfl ?_
  refine V_iload_n 3 dL_law_1058 rfl ?_
  refine V_iconst dL_law_1059 rfl ?_
  refine V_iadd dL_law_1060 ?_
  refine V_sld dL_law_1061 (show nI i + 1 = nI (i + 1) from nI_add i 1) (by omega) hL ?_
  refine V_aload_n 0 dL_law_1062 rfl ?_
  refine V_iload_n 3 dL_law_1063 rfl ?_
  refine V_iconst dL_law_1064 rfl ?_
  refine V_iadd dL_law_1065 ?_
  refine V_sld dL_law_1066 (show nI i + 2 = nI (i + 2) from nI_add i 2) (by omega) hL ?_
  refine V_aload_n 0 dL_law_1067 rfl ?_
  refine V_iload_n 3 dL_law_1068 rfl ?_
  refine V_iconst dL_law_1069 rfl ?_
  refine V_iadd dL_law_1070 ?_
  refine V_sld dL_law_1071 (show nI i + 3 = nI (i + 3) from nI_add i 3) (by omega) hL ?_
  refine V_cVi [.int (xs (i + 1)), .int (xs (i + 2)), .int (xs (i + 3))] mvl_X8_mark wl_229 dL_law_1072 law_rok sh_l0 rfl (by decide) rfl rfl (Nat.le_of_ble_eq_true rfl) (L_mark (d := 80) hI (xs (i + 1)) (xs (i + 2)) (xs (i + 3))) (fun r m1 h1 => ?_)
  refine V_aload_n 2 dL_law_1075 rfl ?_
  refine V_aload_n 0 dL_law_1076 rfl ?_
  refine V_iload_n 3 dL_law_1077 rfl ?_
  refine V_iconst dL_law_1078 rfl ?_
  refine V_iadd dL_law_1079 ?_
  refine V_sld dL_law_1080 (show nI i + 1 = nI (i + 1) from nI_add i 1) (by omega) hL ?_
  refine V_aload_n 0 dL_law_1081 rfl ?_
  refine V_iload_n 3 dL_law_1082 rfl ?_
  refine V_iconst dL_law_1083 rfl ?_
  refine V_iadd dL_law_1084 ?_
  refine V_sld dL_law_1085 (show nI i + 2 = nI (i + 2) from nI_add i 2) (by omega) hL ?_
  refine V_aload_n 0 dL_law_1086 rfl ?_
  refine V_iload_n 3 dL_law_1087 rfl ?_
  refine V_iconst dL_law_1088 rfl ?_
  refine V_iadd dL_law_1089 ?_
  refine V_sld dL_law_1090 (show nI i + 3 = nI (i + 3) from nI_add i 3) (by omega) hL ?_
  refine V_cVi [.int (xs (i + 1)), .int (xs (i + 2)), .int (xs (i + 3))] mvl_X9_mark wl_233 dL_law_1091 law_rok sh_a120 rfl (by decide) rfl rfl (Nat.le_of_ble_eq_true rfl) h1 (fun r2 m2 h2 => ?_)
  exact V_icmp_eq (tgt := 1445) dL_law_1094 rfl ⟨fun _ => k m2 h2.2, fun q => absurd h2.1 q⟩
theorem law_pour (hL : L ≤ 3072) (hi : i + 6 ≤ L) (hI : INV mem) (k : ∀ m, INV m → Vw (NLaw b L xs) mL_law 1445 [(0, .ref 90002), (1, .ref 0), (2, .ref 120), (3, .int (nI i))] [] m) : Vw (NLaw b L xs) mL_law 1099 [(0, .ref 90002), (1, .ref 0), (2, .ref 120), (3, .int (nI i))] [] mem := by
  refine V_aload_n 1 dL_law_1099 rfl ?_
  refine V_aload_n 0 dL_law_1100 rfl ?_
  refine V_iload_n 3 dL_law_1101 rfl ?_
  refine V_iconst dL_law_1102 rfl ?_
  refine V_iadd dL_law_1103 ?_
  refine V_sld dL_law_1104 (show nI i + 1 = nI (i + 1) from nI_add i 1) (by omega) hL ?_
  refine V_cVi [.int (xs (i + 1))] mvl_X8_pour wl_237 dL_law_1105 law_rok sh_l0 rfl (by decide) rfl rfl (Nat.le_of_ble_eq_true rfl) (L_pour (d := 80) hI (xs (i + 1))) (fun r m1 h1 => ?_)
  refine V_aload_n 2 dL_law_1108 rfl ?_
  refine V_aload_n 0 dL_law_1109 rfl ?_
  refine V_iload_n 3 dL_law_1110 rfl ?_
  refine V_iconst dL_law_1111 rfl ?_
  refine V_iadd dL_law_1112 ?_
  refine V_sld dL_law_1113 (show nI i + 1 = nI (i + 1) from nI_add i 1) (by omega) hL ?_
  refine V_cVi [.int (xs (i + 1))] mvl_X9_pour wl_241 dL_law_1114 law_rok sh_a120 rfl (by decide) rfl rfl (Nat.le_of_ble_eq_true rfl) h1 (fun r2 m2 h2 => ?_)
  exact V_icmp_eq (tgt := 1445) dL_law_1117 rfl ⟨fun _ => k m2 h2.2, fun q => absurd h2.1 q⟩
theorem law_reads (hL : L ≤ 3072) (hi : i + 6 ≤ L) (hI : INV mem) (k : ∀ m, INV m → Vw (NLaw b L xs) mL_law 1445 [(0, .ref 90002), (1, .ref 0), (2, .ref 120), (3, .int (nI i))] [] m) : Vw (NLaw b L xs) mL_law 1122 [(0, .ref 90002), (1, .ref 0), (2, .ref 120), (3, .int (nI i))] [] mem := by
  refine V_aload_n 1 dL_law_1122 rfl ?_
  refine V_aload_n 0 dL_law_1123 rfl ?_
  refine V_iload_n 3 dL_law_1124 rfl ?_
  refine V_iconst dL_law_1125 rfl ?_
  refine V_iadd dL_law_1126 ?_
  refine V_sld dL_law_1127 (show nI i + 1 = nI (i + 1) from nI_add i 1) (by omega) hL ?_
  refine V_cVi [.int (xs (i + 1))] mvl_X8_reads wl_245 dL_law_1128 law_rok sh_l0 rfl (by decide) rfl rfl (Nat.le_of_ble_eq_true rfl) (L_reads (d := 80) hI (xs (i + 1))) (fun r m1 h1 => ?_)
  refine V_aload_n 2 dL_law_1131 rfl ?_
  refine V_aload_n 0 dL_law_1132 rfl ?_
  refine V_iload_n 3 dL_law_1133 rfl ?_
  refine V_iconst dL_law_1134 rfl ?_
  refine V_iadd dL_law_1135 ?_
  refine V_sld dL_law_1136 (show nI i + 1 = nI (i + 1) from nI_add i 1) (by omega) hL ?_
  refine V_cVi [.int (xs (i + 1))] mvl_X9_reads wl_249 dL_law_1137 law_rok sh_a120 rfl (by decide) rfl rfl (Nat.le_of_ble_eq_true rfl) h1 (fun r2 m2 h2 => ?_)
  exact V_icmp_eq (tgt := 1445) dL_law_1140 rfl ⟨fun _ => k m2 h2.2, fun q => absurd h2.1 q⟩
theorem law_copy (hL : L ≤ 3072) (hi : i + 6 ≤ L) (hI : INV mem) (k : ∀ m, INV m → Vw (NLaw b L xs) mL_law 1445 [(0, .ref 90002), (1, .ref 0), (2, .ref 120), (3, .int (nI i))] [] m) : Vw (NLaw b L xs) mL_law 1145 [(0, .ref 90002), (1, .ref 0), (2, .ref 120), (3, .int (nI i))] [] mem := by
  refine V_aload_n 1 dL_law_1145 rfl ?_
  refine V_aload_n 0 dL_law_1146 rfl ?_
  refine V_iload_n 3 dL_law_1147 rfl ?_
  refine V_iconst dL_law_1148 rfl ?_
  refine V_iadd dL_law_1149 ?_
  refine V_sld dL_law_1150 (show nI i + 1 = nI (i + 1) from nI_add i 1) (by omega) hL ?_
  refine V_aload_n 0 dL_law_1151 rfl ?_
  refine V_iload_n 3 dL_law_1152 rfl ?_
  refine V_iconst dL_law_1153 rfl ?_
  refine V_iadd dL_law_1154 ?_
  refine V_sld dL_law_1155 (show nI i + 2 = nI (i + 2) from nI_add i 2) (by omega) hL ?_
  refine V_aload_n 0 dL_law_1156 rfl ?_
  refine V_iload_n 3 dL_law_1157 rfl ?_
  refine V_iconst dL_law_1158 rfl ?_
  refine V_iadd dL_law_1159 ?_
  refine V_sld dL_law_1160 (show nI i + 3 = nI (i + 3) from nI_add i 3) (by omega) hL ?_
  refine V_aload_n 0 dL_law_1161 rfl ?_
  refine V_iload_n 3 dL_law_1162 rfl ?_
  refine V_iconst dL_law_1163 rfl ?_
  refine V_iadd dL_law_1164 ?_
  refine V_sld dL_law_1165 (show nI i + 4 = nI (i + 4) from nI_add i 4) (by omega) hL ?_
  refine V_aload_n 0 dL_law_1166 rfl ?_
  refine V_iload_n 3 dL_law_1167 rfl ?_
  refine V_iconst dL_law_1168 rfl ?_
  refine V_iadd dL_law_1169 ?_
  refine V_sld dL_law_1170 (show nI i + 5 = nI (i + 5) from nI_add i 5) (by omega) hL ?_
  refine V_cVi [.int (xs (i + 1)), .int (xs (i + 2)), .int (xs (i + 3)), .int (xs (i + 4)), .int (xs (i + 5))] mvl_X8_copy wl_253 dL_law_1171 law_rok sh_l0 rfl (by decide) rfl rfl (Nat.le_of_ble_eq_true rfl) (L_copy (d := 80) hI (xs (i + 1)) (xs (i + 2)) (xs (i + 3)) (xs (i + 4)) (xs (i + 5))) (fun r m1 h1 => ?_)
  refine V_aload_n 2 dL_law_1174 rfl ?_
  refine V_aload_n 0 dL_law_1175 rfl ?_
  refine V_iload_n 3 dL_law_1176 rfl ?_
  refine V_iconst dL_law_1177 rfl ?_
  refine V_iadd dL_law_1178 ?_
  refine V_sld dL_law_1179 (show nI i + 1 = nI (i + 1) from nI_add i 1) (by omega) hL ?_
  refine V_aload_n 0 dL_law_1180 rfl ?_
  refine V_iload_n 3 dL_law_1181 rfl ?_
  refine V_iconst dL_law_1182 rfl ?_
  refine V_iadd dL_law_1183 ?_
  refine V_sld dL_law_1184 (show nI i + 2 = nI (i + 2) from nI_add i 2) (by omega) hL ?_
  refine V_aload_n 0 dL_law_1185 rfl ?_
  refine V_iload_n 3 dL_law_1186 rfl ?_
  refine V_iconst dL_law_1187 rfl ?_
  refine V_iadd dL_law_1188 ?_
  refine V_sld dL_law_1189 (show nI i + 3 = nI (i + 3) from nI_add i 3) (by omega) hL ?_
  refine V_aload_n 0 dL_law_1190 rfl ?_
  refine V_iload_n 3 dL_law_1191 rfl ?_
  refine V_iconst dL_law_1192 rfl ?_
  refine V_iadd dL_law_1193 ?_
  refine V_sld dL_law_1194 (show nI i + 4 = nI (i + 4) from nI_add i 4) (by omega) hL ?_
  refine V_aload_n 0 dL_law_1195 rfl ?_
  refine V_iload_n 3 dL_law_1196 rfl ?_
  refine V_iconst dL_law_1197 rfl ?_
  refine V_iadd dL_law_1198 ?_
  refine V_sld dL_law_1199 (show nI i + 5 = nI (i + 5) from nI_add i 5) (by omega) hL ?_
  refine V_cVi [.int (xs (i + 1)), .int (xs (i + 2)), .int (xs (i + 3)), .int (xs (i + 4)), .int (xs (i + 5))] mvl_X9_copy wl_257 dL_law_1200 law_rok sh_a120 rfl (by decide) rfl rfl (Nat.le_of_ble_eq_true rfl) h1 (fun r2 m2 h2 => ?_)
  exact V_icmp_eq (tgt := 1445) dL_law_1203 rfl ⟨fun _ => k m2 h2.2, fun q => absurd h2.1 q⟩
theorem law_lay (hL : L ≤ 3072) (hi : i + 6 ≤ L) (hI : INV mem) (k : ∀ m, INV m → Vw (NLaw b L xs) mL_law 1445 [(0, .ref 90002), (1, .ref 0), (2, .ref 120), (3, .int (nI i))] [] m) : Vw (NLaw b L xs) mL_law 1208 [(0, .ref 90002), (1, .ref 0), (2, .ref 120), (3, .int (nI i))] [] mem := by
  refine V_aload_n 1 dL_law_1208 rfl ?_
  refine V_aload_n 0 dL_law_1209 rfl ?_
  refine V_iload_n 3 dL_law_1210 rfl ?_
  refine V_iconst dL_law_1211 rfl ?_
  refine V_iadd dL_law_1212 ?_
  refine V_sld dL_law_1213 (show nI i + 1 = nI (i + 1) from nI_add i 1) (by omega) hL ?_
  refine V_aload_n 0 dL_law_1214 rfl ?_
  refine V_iload_n 3 dL_law_1215 rfl ?_
  refine V_iconst dL_law_1216 rfl ?_
  refine V_iadd dL_law_1217 ?_
  refine V_sld dL_law_1218 (show nI i + 2 = nI (i + 2) from nI_add i 2) (by omega) hL ?_
  refine V_aload_n 0 dL_law_1219 rfl ?_
  refine V_iload_n 3 dL_law_1220 rfl ?_
  refine V_iconst dL_law_1221 rfl ?_
  refine V_iadd dL_law_1222 ?_
  refine V_sld dL_law_1223 (show nI i + 3 = nI (i + 3) from nI_add i 3) (by omega) hL ?_
  refine V_cVi [.int (xs (i + 1)), .int (xs (i + 2)), .int (xs (i + 3))] mvl_X8_lay wl_261 dL_law_1224 law_rok sh_l0 rfl (by decide) rfl rfl (Nat.le_of_ble_eq_true rfl) (L_lay (d := 80) hI (xs (i + 1)) (xs (i + 2)) (xs (i + 3))) (fun r m1 h1 => ?_)
  refine V_aload_n 2 dL_law_1227 rfl ?_
  refine V_aload_n 0 dL_law_1228 rfl ?_
  refine V_iload_n 3 dL_law_1229 rfl ?_
  refine V_iconst dL_law_1230 rfl ?_
  refine V_iadd dL_law_1231 ?_
  refine V_sld dL_law_1232 (show nI i + 1 = nI (i + 1) from nI_add i 1) (by omega) hL ?_
  refine V_aload_n 0 dL_law_1233 rfl ?_
  refine V_iload_n 3 dL_law_1234 rfl ?_
  refine V_iconst dL_law_1235 rfl ?_
  refine V_iadd dL_law_1236 ?_
  refine V_sld dL_law_1237 (show nI i + 2 = nI (i + 2) from nI_add i 2) (by omega) hL ?_
  refine V_aload_n 0 dL_law_1238 rfl ?_
  refine V_iload_n 3 dL_law_1239 rfl ?_
  refine V_iconst dL_law_1240 rfl ?_
  refine V_iadd dL_law_1241 ?_
  refine V_sld dL_law_1242 (show nI i + 3 = nI (i + 3) from nI_add i 3) (by omega) hL ?_
  refine V_cVi [.int (xs (i + 1)), .int (xs (i + 2)), .int (xs (i + 3))] mvl_X9_lay wl_265 dL_law_1243 law_rok sh_a120 rfl (by decide) rfl rfl (Nat.le_of_ble_eq_true rfl) h1 (fun r2 m2 h2 => ?_)
  exact V_icmp_eq (tgt := 1445) dL_law_1246 rfl ⟨fun _ => k m2 h2.2, fun q => absurd h2.1 q⟩
theorem law_ask (hL : L ≤ 3072) (hi : i + 6 ≤ L) (hI : INV mem) (k : ∀ m, INV m → Vw (NLaw b L xs) mL_law 1445 [(0, .ref 90002), (1, .ref 0), (2, .ref 120), (3, .int (nI i))] [] m) : Vw (NLaw b L xs) mL_law 1251 [(0, .ref 90002), (1, .ref 0), (2, .ref 120), (3, .int (nI i))] [] mem := by
  refine V_aload_n 1 dL_law_1251 rfl ?_
  refine V_aload_n 0 dL_law_1252 rfl ?_
  refine V_iload_n 3 dL_law_1253 rfl ?_
  refine V_iconst dL_law_1254 rfl ?_
  refine V_iadd dL_law_1255 ?_
  refine V_sld dL_law_1256 (show nI i + 1 = nI (i + 1) from nI_add i 1) (by omega) hL ?_
  refine V_aload_n 0 dL_law_1257 rfl ?_
  refine V_iload_n 3 dL_law_1258 rfl ?_
  refine V_iconst dL_law_1259 rfl ?_
  refine V_iadd dL_law_1260 ?_
  refine V_sld dL_law_1261 (show nI i + 2 = nI (i + 2) from nI_add i 2) (by omega) hL ?_
  refine V_cVi [.int (xs (i + 1)), .int (xs (i + 2))] mvl_X8_ask wl_269 dL_law_1262 law_rok sh_l0 rfl (by decide) rfl rfl (Nat.le_of_ble_eq_true rfl) (L_ask (d := 80) hI (xs (i + 1)) (xs (i + 2))) (fun r m1 h1 => ?_)
  refine V_aload_n 2 dL_law_1265 rfl ?_
  refine V_aload_n 0 dL_law_1266 rfl ?_
  refine V_iload_n 3 dL_law_1267 rfl ?_
  refine V_iconst dL_law_1268 rfl ?_
  refine V_iadd dL_law_1269 ?_
  refine V_sld dL_law_1270 (show nI i + 1 = nI (i + 1) from nI_add i 1) (by omega) hL ?_
  refine V_aload_n 0 dL_law_1271 rfl ?_
  refine V_iload_n 3 dL_law_1272 rfl ?_
  refine V_iconst dL_law_1273 rfl ?_
  refine V_iadd dL_law_1274 ?_
  refine V_sld dL_law_1275 (show nI i + 2 = nI (i + 2) from nI_add i 2) (by omega) hL ?_
  refine V_cVi [.int (xs (i + 1)), .int (xs (i + 2))] mvl_X9_ask wl_273 dL_law_1276 law_rok sh_a120 rfl (by decide) rfl rfl (Nat.le_of_ble_eq_true rfl) h1 (fun r2 m2 h2 => ?_)
  exact V_icmp_eq (tgt := 1445) dL_law_1279 rfl ⟨fun _ => k m2 h2.2, fun q => absurd h2.1 q⟩
theorem law_item (hL : L ≤ 3072) (hi : i + 6 ≤ L) (hI : INV mem) (k : ∀ m, INV m → Vw (NLaw b L xs) mL_law 1445 [(0, .ref 90002), (1, .ref 0), (2, .ref 120), (3, .int (nI i))] [] m) : Vw (NLaw b L xs) mL_law 1284 [(0, .ref 90002), (1, .ref 0), (2, .ref 120), (3, .int (nI i))] [] mem := by
  refine V_aload_n 1 dL_law_1284 rfl ?_
  refine V_aload_n 0 dL_law_1285 rfl ?_
  refine V_iload_n 3 dL_law_1286 rfl ?_
  refine V_iconst dL_law_1287 rfl ?_
  refine V_iadd dL_law_1288 ?_
  refine V_sld dL_law_1289 (show nI i + 1 = nI (i + 1) from nI_add i 1) (by omega) hL ?_
  refine V_aload_n 0 dL_law_1290 rfl ?_
  refine V_iload_n 3 dL_law_1291 rfl ?_
  refine V_iconst dL_law_1292 rfl ?_
  refine V_iadd dL_law_1293 ?_
  refine V_sld dL_law_1294 (show nI i + 2 = nI (i + 2) from nI_add i 2) (by omega) hL ?_
  refine V_cVi [.int (xs (i + 1)), .int (xs (i + 2))] mvl_X8_item wl_277 dL_law_1295 law_rok sh_l0 rfl (by decide) rfl rfl (Nat.le_of_ble_eq_true rfl) (L_item (d := 80) hI (xs (i + 1)) (xs (i + 2))) (fun r m1 h1 => ?_)
  refine V_aload_n 2 dL_law_1298 rfl ?_
  refine V_aload_n 0 dL_law_1299 rfl ?_
  refine V_iload_n 3 dL_law_1300 rfl ?_
  refine V_iconst dL_law_1301 rfl ?_
  refine V_iadd dL_law_1302 ?_
  refine V_sld dL_law_1303 (show nI i + 1 = nI (i + 1) from nI_add i 1) (by omega) hL ?_
  refine V_aload_n 0 dL_law_1304 rfl ?_
  refine V_iload_n 3 dL_law_1305 rfl ?_
  refine V_iconst dL_law_1306 rfl ?_
  refine V_iadd dL_law_1307 ?_
  refine V_sld dL_law_1308 (show nI i + 2 = nI (i + 2) from nI_add i 2) (by omega) hL ?_
  refine V_cVi [.int (xs (i + 1)), .int (xs (i + 2))] mvl_X9_item wl_281 dL_law_1309 law_rok sh_a120 rfl (by decide) rfl rfl (Nat.le_of_ble_eq_true rfl) h1 (fun r2 m2 h2 => ?_)
  exact V_icmp_eq (tgt := 1445) dL_law_1312 rfl ⟨fun _ => k m2 h2.2, fun q => absurd h2.1 q⟩
theorem law_rest (hL : L ≤ 3072) (hi : i + 6 ≤ L) (hI : INV mem) (k : ∀ m, INV m → Vw (NLaw b L xs) mL_law 1445 [(0, .ref 90002), (1, .ref 0), (2, .ref 120), (3, .int (nI i))] [] m) : Vw (NLaw b L xs) mL_law 1317 [(0, .ref 90002), (1, .ref 0), (2, .ref 120), (3, .int (nI i))] [] mem := by
  refine V_aload_n 1 dL_law_1317 rfl ?_
  refine V_aload_n 0 dL_law_1318 rfl ?_
  refine V_iload_n 3 dL_law_1319 rfl ?_
  refine V_iconst dL_law_1320 rfl ?_
  refine V_iadd dL_law_1321 ?_
  refine V_sld dL_law_1322 (show nI i + 1 = nI (i + 1) from nI_add i 1) (by omega) hL ?_
  refine V_aload_n 0 dL_law_1323 rfl ?_
  refine V_iload_n 3 dL_law_1324 rfl ?_
  refine V_iconst dL_law_1325 rfl ?_
  refine V_iadd dL_law_1326 ?_
  refine V_sld dL_law_1327 (show nI i + 2 = nI (i + 2) from nI_add i 2) (by omega) hL ?_
  refine V_cVi [.int (xs (i + 1)), .int (xs (i + 2))] mvl_X8_rest wl_285 dL_law_1328 law_rok sh_l0 rfl (by decide) rfl rfl (Nat.le_of_ble_eq_true rfl) (L_rest (d := 80) hI (xs (i + 1)) (xs (i + 2))) (fun r m1 h1 => ?_)
  refine V_aload_n 2 dL_law_1331 rfl ?_
  refine V_aload_n 0 dL_law_1332 rfl ?_
  refine V_iload_n 3 dL_law_1333 rfl ?_
  refine V_iconst dL_law_1334 rfl ?_
  refine V_iadd dL_law_1335 ?_
  refine V_sld dL_law_1336 (show nI i + 1 = nI (i + 1) from nI_add i 1) (by omega) hL ?_
  refine V_aload_n 0 dL_law_1337 rfl ?_
  refine V_iload_n 3 dL_law_1338 rfl ?_
  refine V_iconst dL_law_1339 rfl ?_
  refine V_iadd dL_law_1340 ?_
  refine V_sld dL_law_1341 (show nI i + 2 = nI (i + 2) from nI_add i 2) (by omega) hL ?_
  refine V_cVi [.int (xs (i + 1)), .int (xs (i + 2))] mvl_X9_rest wl_289 dL_law_1342 law_rok sh_a120 rfl (by decide) rfl rfl (Nat.le_of_ble_eq_true rfl) h1 (fun r2 m2 h2 => ?_)
  exact V_icmp_eq (tgt := 1445) dL_law_1345 rfl ⟨fun _ => k m2 h2.2, fun q => absurd h2.1 q⟩
theorem law_tell (hL : L ≤ 3072) (hi : i + 6 ≤ L) (hI : INV mem) (k : ∀ m, INV m → Vw (NLaw b L xs) mL_law 1445 [(0, .ref 90002), (1, .ref 0), (2, .ref 120), (3, .int (nI i))] [] m) : Vw (NLaw b L xs) mL_law 1350 [(0, .ref 90002), (1, .ref 0), (2, .ref 120), (3, .int (nI i))] [] mem := by
  refine V_aload_n 1 dL_law_1350 rfl ?_
  refine V_aload_n 0 dL_law_1351 rfl ?_
  refine V_iload_n 3 dL_law_1352 rfl ?_
  refine V_iconst dL_law_1353 rfl ?_
  refine V_iadd dL_law_1354 ?_
  refine V_sld dL_law_1355 (show nI i + 1 = nI (i + 1) from nI_add i 1) (by omega) hL ?_
  refine V_cVi [.int (xs (i + 1))] mvl_X8_tell wl_293 dL_law_1356 law_rok sh_l0 rfl (by decide) rfl rfl (Nat.le_of_ble_eq_true rfl) (L_tell (d := 80) hI (xs (i + 1))) (fun r m1 h1 => ?_)
  refine V_aload_n 2 dL_law_1359 rfl ?_
  refine V_aload_n 0 dL_law_1360 rfl ?_
  refine V_iload_n 3 dL_law_1361 rfl ?_
  refine V_iconst dL_law_1362 rfl ?_
  refine V_iadd dL_law_1363 ?_
  refine V_sld dL_law_1364 (show nI i + 1 = nI (i + 1) from nI_add i 1) (by omega) hL ?_
  refine V_cVi [.int (xs (i + 1))] mvl_X9_tell wl_297 dL_law_1365 law_rok sh_a120 rfl (by decide) rfl rfl (Nat.le_of_ble_eq_true rfl) h1 (fun r2 m2 h2 => ?_)
  exact V_icmp_eq (tgt := 1445) dL_law_1368 rfl ⟨fun _ => k m2 h2.2, fun q => absurd h2.1 q⟩
theorem law_check (hL : L ≤ 3072) (hi : i + 6 ≤ L) (hI : INV mem) (k : ∀ m, INV m → Vw (NLaw b L xs) mL_law 1445 [(0, .ref 90002), (1, .ref 0), (2, .ref 120), (3, .int (nI i))] [] m) : Vw (NLaw b L xs) mL_law 1373 [(0, .ref 90002), (1, .ref 0), (2, .ref 120), (3, .int (nI i))] [] mem := by
  refine V_aload_n 1 dL_law_1373 rfl ?_
  refine V_aload_n 0 dL_law_1374 rfl ?_
  refine V_iload_n 3 dL_law_1375 rfl ?_
  refine V_iconst dL_law_1376 rfl ?_
  refine V_iadd dL_law_1377 ?_
  refine V_sld dL_law_1378 (show nI i + 1 = nI (i + 1) from nI_add i 1) (by omega) hL ?_
  refine V_cVi [.int (xs (i + 1))] mvl_X8_check wl_301 dL_law_1379 law_rok sh_l0 rfl (by decide) rfl rfl (Nat.le_of_ble_eq_true rfl) (L_check (d := 80) hI (xs (i + 1))) (fun r m1 h1 => ?_)
  refine V_aload_n 2 dL_law_1382 rfl ?_
  refine V_aload_n 0 dL_law_1383 rfl ?_
  refine V_iload_n 3 dL_law_1384 rfl ?_
  refine V_iconst dL_law_1385 rfl ?_
  refine V_iadd dL_law_1386 ?_
  refine V_sld dL_law_1387 (show nI i + 1 = nI (i + 1) from nI_add i 1) (by omega) hL ?_
  refine V_cVi [.int (xs (i + 1))] mvl_X9_check wl_305 dL_law_1388 law_rok sh_a120 rfl (by decide) rfl rfl (Nat.le_of_ble_eq_true rfl) h1 (fun r2 m2 h2 => ?_)
  exact V_icmp_eq (tgt := 1445) dL_law_1391 rfl ⟨fun _ => k m2 h2.2, fun q => absurd h2.1 q⟩
theorem law_keep (hL : L ≤ 3072) (hi : i + 6 ≤ L) (hI : INV mem) (k : ∀ m, INV m → Vw (NLaw b L xs) mL_law 1445 [(0, .ref 90002), (1, .ref 0), (2, .ref 120), (3, .int (nI i))] [] m) : Vw (NLaw b L xs) mL_law 1396 [(0, .ref 90002), (1, .ref 0), (2, .ref 120), (3, .int (nI i))] [] mem := by
  refine V_aload_n 1 dL_law_1396 rfl ?_
  refine V_cVi [] mvl_X8_keep wl_309 dL_law_1397 law_rok sh_l0 rfl (by decide) rfl rfl (Nat.le_of_ble_eq_true rfl) (L_keep (d := 80) hI) (fun r m1 h1 => ?_)
  refine V_aload_n 2 dL_law_1400 rfl ?_
  refine V_cVi [] mvl_X9_keep wl_313 dL_law_1401 law_rok sh_a120 rfl (by decide) rfl rfl (Nat.le_of_ble_eq_true rfl) h1 (fun r2 m2 h2 => ?_)
  exact V_icmp_eq (tgt := 1445) dL_law_1404 rfl ⟨fun _ => k m2 h2.2, fun q => absurd h2.1 q⟩
theorem law_back (hL : L ≤ 3072) (hi : i + 6 ≤ L) (hI : INV mem) (k : ∀ m, INV m → Vw (NLaw b L xs) mL_law 1445 [(0, .ref 90002), (1, .ref 0), (2, .ref 120), (3, .int (nI i))] [] m) : Vw (NLaw b L xs) mL_law 1409 [(0, .ref 90002), (1, .ref 0), (2, .ref 120), (3, .int (nI i))] [] mem := by
  refine V_aload_n 1 dL_law_1409 rfl ?_
  refine V_cVi [] mvl_X8_back wl_317 dL_law_1410 law_rok sh_l0 rfl (by decide) rfl rfl (Nat.le_of_ble_eq_true rfl) (L_back (d := 80) hI) (fun r m1 h1 => ?_)
  refine V_aload_n 2 dL_law_1413 rfl ?_
  refine V_cVi [] mvl_X9_back wl_321 dL_law_1414 law_rok sh_a120 rfl (by decide) rfl rfl (Nat.le_of_ble_eq_true rfl) h1 (fun r2 m2 h2 => ?_)
  exact V_icmp_eq (tgt := 1445) dL_law_1417 rfl ⟨fun _ => k m2 h2.2, fun q => absurd h2.1 q⟩
theorem law_count (hL : L ≤ 3072) (hi : i + 6 ≤ L) (hI : INV mem) (k : ∀ m, INV m → Vw (NLaw b L xs) mL_law 1445 [(0, .ref 90002), (1, .ref 0), (2, .ref 120), (3, .int (nI i))] [] m) : Vw (NLaw b L xs) mL_law 1422 [(0, .ref 90002), (1, .ref 0), (2, .ref 120), (3, .int (nI i))] [] mem := by
  refine V_aload_n 1 dL_law_1422 rfl ?_
  refine V_aload_n 0 dL_law_1423 rfl ?_
  refine V_iload_n 3 dL_law_1424 rfl ?_
  refine V_iconst dL_law_1425 rfl ?_
  refine V_iadd dL_law_1426 ?_
  refine V_sld dL_law_1427 (show nI i + 1 = nI (i + 1) from nI_add i 1) (by omega) hL ?_
  refine V_cVi [.int (xs (i + 1))] mvl_X8_count wl_325 dL_law_1428 law_rok sh_l0 rfl (by decide) rfl rfl (Nat.le_of_ble_eq_true rfl) (L_count (d := 80) hI (xs (i + 1))) (fun r m1 h1 => ?_)
  refine V_aload_n 2 dL_law_1431 rfl ?_
  refine V_aload_n 0 dL_law_1432 rfl ?_
  refine V_iload_n 3 dL_law_1433 rfl ?_
  refine V_iconst dL_law_1434 rfl ?_
  refine V_iadd dL_law_1435 ?_
  refine V_sld dL_law_1436 (show nI i + 1 = nI (i + 1) from nI_add i 1) (by omega) hL ?_
  refine V_cVi [.int (xs (i + 1))] mvl_X9_count wl_329 dL_law_1437 law_rok sh_a120 rfl (by decide) rfl rfl (Nat.le_of_ble_eq_true rfl) h1 (fun r2 m2 h2 => ?_)
  exact V_icmp_eq (tgt := 1445) dL_law_1440 rfl ⟨fun _ => k m2 h2.2, fun q => absurd h2.1 q⟩
set_option maxRecDepth 20000 in
theorem law_sw (hL : L ≤ 3072) (hi : i + 6 ≤ L) (hI : INV mem) (x : Int32) (k : ∀ m, INV m → Vw (NLaw b L xs) mL_law 1445 [(0, .ref 90002), (1, .ref 0), (2, .ref 120), (3, .int (nI i))] [] m) : Vw (NLaw b L xs) mL_law 33 [(0, .ref 90002), (1, .ref 0), (2, .ref 120), (3, .int (nI i))] [.int x] mem :=
  V_tswc [(0, 212), (1, 235), (2, 268), (3, 311), (4, 344), (5, 377), (6, 420), (7, 453), (8, 486), (9, 519), (10, 562), (11, 585), (12, 608), (13, 631), (14, 654), (15, 687), (16, 700), (17, 713), (18, 736), (19, 769), (20, 802), (21, 835), (22, 878), (23, 921), (24, 944), (25, 957), (26, 990), (27, 1013), (28, 1056), (29, 1099), (30, 1122), (31, 1145), (32, 1208), (33, 1251), (34, 1284), (35, 1317), (36, 1350), (37, 1373), (38, 1396), (39, 1409), (40, 1422)] 1445 dL_law_33 (by decide +kernel) ⟨fun _ => law_wagon hL hi hI k, fun _ => ⟨fun _ => law_at hL hi hI k, fun _ => ⟨fun _ => law_lays hL hi hI k, fun _ => ⟨fun _ => law_far hL hi hI k, fun _ => ⟨fun _ => law_plain hL hi hI k, fun _ => ⟨fun _ => law_watcher hL hi hI k, fun _ => ⟨fun _ => law_told hL hi hI k, fun _ => ⟨fun _ => law_as hL hi hI k, fun _ => ⟨fun _ => law_turns hL hi hI k, fun _ => ⟨fun _ => law_set hL hi hI k, fun _ => ⟨fun _ => law_deal hL hi hI k, fun _ => ⟨fun _ => law_seed hL hi hI k, fun _ => ⟨fun _ => law_hours hL hi hI k, fun _ => ⟨fun _ => law_night hL hi hI k, fun _ => ⟨fun _ => law_behind hL hi hI k, fun _ => ⟨fun _ => law_lasts hL hi hI k, fun _ => ⟨fun _ => law_loss hL hi hI k, fun _ => ⟨fun _ => law_dark hL hi hI k, fun _ => ⟨fun _ => law_fires hL hi hI k, fun _ => ⟨fun _ => law_watch hL hi hI k, fun _ => ⟨fun _ => law_place hL hi hI k, fun _ => ⟨fun _ => law_signs hL hi hI k, fun _ => ⟨fun _ => law_feed hL hi hI k, fun _ => ⟨fun _ => law_trim hL hi hI k, fun _ => ⟨fun _ => law_text hL hi hI k, fun _ => ⟨fun _ => law_textTold hL hi hI k, fun _ => ⟨fun _ => law_why hL hi hI k, fun _ => ⟨fun _ => law_sheet hL hi hI k, fun _ => ⟨fun _ => law_mark hL hi hI k, fun _ => ⟨fun _ => law_pour hL hi hI k, fun _ => ⟨fun _ => law_reads hL hi hI k, fun _ => ⟨fun _ => law_copy hL hi hI k, fun _ => ⟨fun _ => law_lay hL hi hI k, fun _ => ⟨fun _ => law_ask hL hi hI k, fun _ => ⟨fun _ => law_item hL hi hI k, fun _ => ⟨fun _ => law_rest hL hi hI k, fun _ => ⟨fun _ => law_tell hL hi hI k, fun _ => ⟨fun _ => law_check hL hi hI k, fun _ => ⟨fun _ => law_keep hL hi hI k, fun _ => ⟨fun _ => law_back hL hi hI k, fun _ => ⟨fun _ => law_count hL hi hI k, fun _ => k mem hI⟩⟩⟩⟩⟩⟩⟩⟩⟩⟩⟩⟩⟩⟩⟩⟩⟩⟩⟩⟩⟩⟩⟩⟩⟩⟩⟩⟩⟩⟩⟩⟩⟩⟩⟩⟩⟩⟩⟩⟩⟩
end LAWC
