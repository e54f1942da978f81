/-! ===== the law, case by case: printed by wip/gen/lawcases.py ===== -/
section LCS
variable {g : GG} {p : Program} {e : Env} {s : State} {m : MethodId} {below : List Frame} {meth : Method} {c : Code} {b L : Nat} {xs : Nat → Int32} {Q : State → Prop} {ce sl i : Nat} {M : MM}
theorem lc_0 (X : XL g p s m meth c b L xs) (I : Inv M) (hn : mn M = 173) (hi : i + 7 ≤ L) (hf : ce + 1 ≤ room_1.cells ∧ sl + 6 ≤ room_1.slots) (k : ∀ g2 M2, XL g2 p s m meth c b L xs → Inv M2 → mn M2 = 173 → EL g2 p e s m below meth c b Q (ce + 1) (sl + 6) 1316 (LV i) [] M2) : EL g p e s m below meth c b Q ce sl 200 (LV i) [] M := by
  refine y_aload_n X.1 dL_law_200 0 rfl ?_
  refine s_ldc 1 X dL_law_201 dL_law_202 dL_law_204 dL_law_205 dL_law_206 (by decide) 3 rfl (by omega) ?_
  refine s_high X dL_law_207 dL_law_208 dL_law_210 ?_
  refine s_ldc 2 X dL_law_211 dL_law_212 dL_law_214 dL_law_215 dL_law_216 (by decide) 3 rfl (by omega) ?_
  refine s_long X dL_law_217 dL_law_218 dL_law_221 dL_law_222 ?_
  refine s_ldc 3 X dL_law_223 dL_law_224 dL_law_226 dL_law_227 dL_law_228 (by decide) 3 rfl (by omega) ?_
  refine s_high X dL_law_229 dL_law_230 dL_law_232 ?_
  refine s_ldc 4 X dL_law_233 dL_law_234 dL_law_236 dL_law_237 dL_law_238 (by decide) 3 rfl (by omega) ?_
  refine s_long X dL_law_239 dL_law_240 dL_law_243 dL_law_244 ?_
  refine s_ldc 5 X dL_law_245 dL_law_246 dL_law_248 dL_law_249 dL_law_250 (by decide) 3 rfl (by omega) ?_
  refine s_high X dL_law_251 dL_law_252 dL_law_254 ?_
  refine s_ldb 6 X dL_law_255 dL_law_256 dL_law_258 dL_law_260 dL_law_261 (by decide) 3 rfl (by omega) ?_
  refine s_long X dL_law_262 dL_law_263 dL_law_266 dL_law_267 ?_
  have h0 : Pr g YX11_feed YX12_feed 60 [.long (((xs (i + 1)).toInt64 <<< ((32 : Int32).toInt64 &&& 63)) ||| ((xs (i + 2)).toInt64 &&& 4294967295)), .long (((xs (i + 3)).toInt64 <<< ((32 : Int32).toInt64 &&& 63)) ||| ((xs (i + 4)).toInt64 &&& 4294967295)), .long (((xs (i + 5)).toInt64 <<< ((32 : Int32).toInt64 &&& 63)) ||| ((xs (i + 6)).toInt64 &&& 4294967295))] M := p_feed I
  refine l_call (As := [.long (((xs (i + 1)).toInt64 <<< ((32 : Int32).toInt64 &&& 63)) ||| ((xs (i + 2)).toInt64 &&& 4294967295)), .long (((xs (i + 3)).toInt64 <<< ((32 : Int32).toInt64 &&& 63)) ||| ((xs (i + 4)).toInt64 &&& 4294967295)), .long (((xs (i + 5)).toInt64 <<< ((32 : Int32).toInt64 &&& 63)) ||| ((xs (i + 6)).toInt64 &&& 4294967295))]) (st := []) X YX11_feed cvL_25 dL_law_268 rfl rfl I.o0 rfl ⟨by omega, by omega⟩ (Nat.le_of_ble_eq_true rfl) h0 ?_
  rintro rv M1 ⟨v, rfl, o1, h2⟩ n1
  refine y_aload_n X.1 dL_law_271 1 rfl ?_
  refine s_ldc 1 X dL_law_272 dL_law_273 dL_law_275 dL_law_276 dL_law_277 (by decide) 3 rfl (by omega) ?_
  refine s_high X dL_law_278 dL_law_279 dL_law_281 ?_
  refine s_ldc 2 X dL_law_282 dL_law_283 dL_law_285 dL_law_286 dL_law_287 (by decide) 3 rfl (by omega) ?_
  refine s_long X dL_law_288 dL_law_289 dL_law_292 dL_law_293 ?_
  refine s_ldc 3 X dL_law_294 dL_law_295 dL_law_297 dL_law_298 dL_law_299 (by decide) 3 rfl (by omega) ?_
  refine s_high X dL_law_300 dL_law_301 dL_law_303 ?_
  refine s_ldc 4 X dL_law_304 dL_law_305 dL_law_307 dL_law_308 dL_law_309 (by decide) 3 rfl (by omega) ?_
  refine s_long X dL_law_310 dL_law_311 dL_law_314 dL_law_315 ?_
  refine s_ldc 5 X dL_law_316 dL_law_317 dL_law_319 dL_law_320 dL_law_321 (by decide) 3 rfl (by omega) ?_
  refine s_high X dL_law_322 dL_law_323 dL_law_325 ?_
  refine s_ldb 6 X dL_law_326 dL_law_327 dL_law_329 dL_law_331 dL_law_332 (by decide) 3 rfl (by omega) ?_
  refine s_long X dL_law_333 dL_law_334 dL_law_337 dL_law_338 ?_
  refine l_call (As := [.long (((xs (i + 1)).toInt64 <<< ((32 : Int32).toInt64 &&& 63)) ||| ((xs (i + 2)).toInt64 &&& 4294967295)), .long (((xs (i + 3)).toInt64 <<< ((32 : Int32).toInt64 &&& 63)) ||| ((xs (i + 4)).toInt64 &&& 4294967295)), .long (((xs (i + 5)).toInt64 <<< ((32 : Int32).toInt64 &&& 63)) ||| ((xs (i + 6)).toInt64 &&& 4294967295))]) (st := [.int v]) X YX12_feed cvL_29 dL_law_339 rfl rfl o1 rfl ⟨by omega, by omega⟩ (Nat.le_of_ble_eq_true rfl) h2 ?_
  rintro rv2 M2 ⟨rfl, I2⟩ n2
  exact y_ic_eq X.1 1316 dL_law_342 (by decide) (fun _ => EQ.wid (Nat.le_add_right _ _) (Nat.le_add_right _ _) (k g M2 X I2 (n2.trans (n1.trans hn)))) (fun z => absurd rfl z)
theorem lc_1 (X : XL g p s m meth c b L xs) (I : Inv M) (hn : mn M = 173) (hi : i + 7 ≤ L) (hf : ce + 1 ≤ room_1.cells ∧ sl + 6 ≤ room_1.slots) (k : ∀ g2 M2, XL g2 p s m meth c b L xs → Inv M2 → mn M2 = 173 → EL g2 p e s m below meth c b Q (ce + 1) (sl + 6) 1316 (LV i) [] M2) : EL g p e s m below meth c b Q ce sl 347 (LV i) [] M := by
  refine y_aload_n X.1 dL_law_347 0 rfl ?_
  have h0 : Pr g YX11_county YX12_county 60 [] M := p_county I
  refine l_call (As := []) (st := []) X YX11_county cvL_30 dL_law_348 rfl rfl I.o0 rfl ⟨by omega, by omega⟩ (Nat.le_of_ble_eq_true rfl) h0 ?_
  rintro rv M1 ⟨v, rfl, o1, h2⟩ n1
  refine y_aload_n X.1 dL_law_351 1 rfl ?_
  refine l_call (As := []) (st := [.int v]) X YX12_county cvL_34 dL_law_352 rfl rfl o1 rfl ⟨by omega, by omega⟩ (Nat.le_of_ble_eq_true rfl) h2 ?_
  rintro rv2 M2 ⟨rfl, I2⟩ n2
  exact y_ic_eq X.1 1316 dL_law_355 (by decide) (fun _ => EQ.wid (Nat.le_add_right _ _) (Nat.le_add_right _ _) (k g M2 X I2 (n2.trans (n1.trans hn)))) (fun z => absurd rfl z)
theorem lc_2 (X : XL g p s m meth c b L xs) (I : Inv M) (hn : mn M = 173) (hi : i + 7 ≤ L) (hf : ce + 1 ≤ room_1.cells ∧ sl + 6 ≤ room_1.slots) (k : ∀ g2 M2, XL g2 p s m meth c b L xs → Inv M2 → mn M2 = 173 → EL g2 p e s m below meth c b Q (ce + 1) (sl + 6) 1316 (LV i) [] M2) : EL g p e s m below meth c b Q ce sl 360 (LV i) [] M := by
  refine y_aload_n X.1 dL_law_360 0 rfl ?_
  have h0 : Pr g YX11_round YX12_round 60 [] M := p_round I
  refine l_call (As := []) (st := []) X YX11_round cvL_35 dL_law_361 rfl rfl I.o0 rfl ⟨by omega, by omega⟩ (Nat.le_of_ble_eq_true rfl) h0 ?_
  rintro rv M1 ⟨v, rfl, o1, h2⟩ n1
  refine y_aload_n X.1 dL_law_364 1 rfl ?_
  refine l_call (As := []) (st := [.int v]) X YX12_round cvL_38 dL_law_365 rfl rfl o1 rfl ⟨by omega, by omega⟩ (Nat.le_of_ble_eq_true rfl) h2 ?_
  rintro rv2 M2 ⟨rfl, I2⟩ n2
  exact y_ic_eq X.1 1316 dL_law_368 (by decide) (fun _ => EQ.wid (Nat.le_add_right _ _) (Nat.le_add_right _ _) (k g M2 X I2 (n2.trans (n1.trans hn)))) (fun z => absurd rfl z)
theorem lc_3 (X : XL g p s m meth c b L xs) (I : Inv M) (hn : mn M = 173) (hi : i + 7 ≤ L) (hf : ce + 1 ≤ room_1.cells ∧ sl + 6 ≤ room_1.slots) (k : ∀ g2 M2, XL g2 p s m meth c b L xs → Inv M2 → mn M2 = 173 → EL g2 p e s m below meth c b Q (ce + 1) (sl + 6) 1316 (LV i) [] M2) : EL g p e s m below meth c b Q ce sl 373 (LV i) [] M := by
  refine y_aload_n X.1 dL_law_373 0 rfl ?_
  refine s_ldc 1 X dL_law_374 dL_law_375 dL_law_377 dL_law_378 dL_law_379 (by decide) 3 rfl (by omega) ?_
  refine s_ldc 2 X dL_law_380 dL_law_381 dL_law_383 dL_law_384 dL_law_385 (by decide) 3 rfl (by omega) ?_
  have h0 : Pr g YX11_shot YX12_shot 60 [.int (xs (i + 1)), .int (xs (i + 2))] M := p_shot I
  refine l_call (As := [.int (xs (i + 1)), .int (xs (i + 2))]) (st := []) X YX11_shot cvL_39 dL_law_386 rfl rfl I.o0 rfl ⟨by omega, by omega⟩ (Nat.le_of_ble_eq_true rfl) h0 ?_
  rintro rv M1 ⟨v, rfl, o1, h2⟩ n1
  refine y_aload_n X.1 dL_law_389 1 rfl ?_
  refine s_ldc 1 X dL_law_390 dL_law_391 dL_law_393 dL_law_394 dL_law_395 (by decide) 3 rfl (by omega) ?_
  refine s_ldc 2 X dL_law_396 dL_law_397 dL_law_399 dL_law_400 dL_law_401 (by decide) 3 rfl (by omega) ?_
  refine l_call (As := [.int (xs (i + 1)), .int (xs (i + 2))]) (st := [.int v]) X YX12_shot cvL_43 dL_law_402 rfl rfl o1 rfl ⟨by omega, by omega⟩ (Nat.le_of_ble_eq_true rfl) h2 ?_
  rintro rv2 M2 ⟨rfl, I2⟩ n2
  exact y_ic_eq X.1 1316 dL_law_405 (by decide) (fun _ => EQ.wid (Nat.le_add_right _ _) (Nat.le_add_right _ _) (k g M2 X I2 (n2.trans (n1.trans hn)))) (fun z => absurd rfl z)
theorem lc_4 (X : XL g p s m meth c b L xs) (I : Inv M) (hn : mn M = 173) (hi : i + 7 ≤ L) (hf : ce + 1 ≤ room_1.cells ∧ sl + 6 ≤ room_1.slots) (k : ∀ g2 M2, XL g2 p s m meth c b L xs → Inv M2 → mn M2 = 173 → EL g2 p e s m below meth c b Q (ce + 1) (sl + 6) 1316 (LV i) [] M2) : EL g p e s m below meth c b Q ce sl 410 (LV i) [] M := by
  refine y_aload_n X.1 dL_law_410 0 rfl ?_
  refine s_ldc 1 X dL_law_411 dL_law_412 dL_law_414 dL_law_415 dL_law_416 (by decide) 3 rfl (by omega) ?_
  refine s_ldc 2 X dL_law_417 dL_law_418 dL_law_420 dL_law_421 dL_law_422 (by decide) 3 rfl (by omega) ?_
  have h0 : Pr g YX11_hall YX12_hall 60 [.int (xs (i + 1)), .int (xs (i + 2))] M := p_hall I
  refine l_call (As := [.int (xs (i + 1)), .int (xs (i + 2))]) (st := []) X YX11_hall cvL_44 dL_law_423 rfl rfl I.o0 rfl ⟨by omega, by omega⟩ (Nat.le_of_ble_eq_true rfl) h0 ?_
  rintro rv M1 ⟨v, rfl, o1, h2⟩ n1
  refine y_aload_n X.1 dL_law_426 1 rfl ?_
  refine s_ldc 1 X dL_law_427 dL_law_428 dL_law_430 dL_law_431 dL_law_432 (by decide) 3 rfl (by omega) ?_
  refine s_ldc 2 X dL_law_433 dL_law_434 dL_law_436 dL_law_437 dL_law_438 (by decide) 3 rfl (by omega) ?_
  refine l_call (As := [.int (xs (i + 1)), .int (xs (i + 2))]) (st := [.int v]) X YX12_hall cvL_47 dL_law_439 rfl rfl o1 rfl ⟨by omega, by omega⟩ (Nat.le_of_ble_eq_true rfl) h2 ?_
  rintro rv2 M2 ⟨rfl, I2⟩ n2
  exact y_ic_eq X.1 1316 dL_law_442 (by decide) (fun _ => EQ.wid (Nat.le_add_right _ _) (Nat.le_add_right _ _) (k g M2 X I2 (n2.trans (n1.trans hn)))) (fun z => absurd rfl z)
theorem lc_5 (X : XL g p s m meth c b L xs) (I : Inv M) (hn : mn M = 173) (hi : i + 7 ≤ L) (hf : ce + 1 ≤ room_1.cells ∧ sl + 6 ≤ room_1.slots) (k : ∀ g2 M2, XL g2 p s m meth c b L xs → Inv M2 → mn M2 = 173 → EL g2 p e s m below meth c b Q (ce + 1) (sl + 6) 1316 (LV i) [] M2) : EL g p e s m below meth c b Q ce sl 447 (LV i) [] M := by
  refine y_aload_n X.1 dL_law_447 0 rfl ?_
  have h0 : Pr g YX11_show YX12_show 60 [] M := p_show I
  refine l_call (As := []) (st := []) X YX11_show cvL_48 dL_law_448 rfl rfl I.o0 rfl ⟨by omega, by omega⟩ (Nat.le_of_ble_eq_true rfl) h0 ?_
  rintro rv M1 ⟨v, rfl, o1, h2⟩ n1
  refine y_aload_n X.1 dL_law_451 1 rfl ?_
  refine l_call (As := []) (st := [.int v]) X YX12_show cvL_51 dL_law_452 rfl rfl o1 rfl ⟨by omega, by omega⟩ (Nat.le_of_ble_eq_true rfl) h2 ?_
  rintro rv2 M2 ⟨rfl, I2⟩ n2
  exact y_ic_eq X.1 1316 dL_law_455 (by decide) (fun _ => EQ.wid (Nat.le_add_right _ _) (Nat.le_add_right _ _) (k g M2 X I2 (n2.trans (n1.trans hn)))) (fun z => absurd rfl z)
theorem lc_6 (X : XL g p s m meth c b L xs) (I : Inv M) (hn : mn M = 173) (hi : i + 7 ≤ L) (hf : ce + 1 ≤ room_1.cells ∧ sl + 6 ≤ room_1.slots) (k : ∀ g2 M2, XL g2 p s m meth c b L xs → Inv M2 → mn M2 = 173 → EL g2 p e s m below meth c b Q (ce + 1) (sl + 6) 1316 (LV i) [] M2) : EL g p e s m below meth c b Q ce sl 460 (LV i) [] M := by
  refine y_aload_n X.1 dL_law_460 0 rfl ?_
  refine s_ldc 1 X dL_law_461 dL_law_462 dL_law_464 dL_law_465 dL_law_466 (by decide) 3 rfl (by omega) ?_
  refine s_ldc 2 X dL_law_467 dL_law_468 dL_law_470 dL_law_471 dL_law_472 (by decide) 3 rfl (by omega) ?_
  have h0 : Pr g YX11_give YX12_give 60 [.int (xs (i + 1)), .int (xs (i + 2))] M := p_give I
  refine l_call (As := [.int (xs (i + 1)), .int (xs (i + 2))]) (st := []) X YX11_give cvL_52 dL_law_473 rfl rfl I.o0 rfl ⟨by omega, by omega⟩ (Nat.le_of_ble_eq_true rfl) h0 ?_
  rintro rv M1 ⟨v, rfl, o1, h2⟩ n1
  refine y_aload_n X.1 dL_law_476 1 rfl ?_
  refine s_ldc 1 X dL_law_477 dL_law_478 dL_law_480 dL_law_481 dL_law_482 (by decide) 3 rfl (by omega) ?_
  refine s_ldc 2 X dL_law_483 dL_law_484 dL_law_486 dL_law_487 dL_law_488 (by decide) 3 rfl (by omega) ?_
  refine l_call (As := [.int (xs (i + 1)), .int (xs (i + 2))]) (st := [.int v]) X YX12_give cvL_55 dL_law_489 rfl rfl o1 rfl ⟨by omega, by omega⟩ (Nat.le_of_ble_eq_true rfl) h2 ?_
  rintro rv2 M2 ⟨rfl, I2⟩ n2
  exact y_ic_eq X.1 1316 dL_law_492 (by decide) (fun _ => EQ.wid (Nat.le_add_right _ _) (Nat.le_add_right _ _) (k g M2 X I2 (n2.trans (n1.trans hn)))) (fun z => absurd rfl z)
theorem lc_7 (X : XL g p s m meth c b L xs) (I : Inv M) (hn : mn M = 173) (hi : i + 7 ≤ L) (hf : ce + 1 ≤ room_1.cells ∧ sl + 6 ≤ room_1.slots) (k : ∀ g2 M2, XL g2 p s m meth c b L xs → Inv M2 → mn M2 = 173 → EL g2 p e s m below meth c b Q (ce + 1) (sl + 6) 1316 (LV i) [] M2) : EL g p e s m below meth c b Q ce sl 497 (LV i) [] M := by
  refine y_aload_n X.1 dL_law_497 0 rfl ?_
  refine s_ldc 1 X dL_law_498 dL_law_499 dL_law_501 dL_law_502 dL_law_503 (by decide) 3 rfl (by omega) ?_
  refine s_ldc 2 X dL_law_504 dL_law_505 dL_law_507 dL_law_508 dL_law_509 (by decide) 3 rfl (by omega) ?_
  refine s_ldc 3 X dL_law_510 dL_law_511 dL_law_513 dL_law_514 dL_law_515 (by decide) 3 rfl (by omega) ?_
  have h0 : Pr g YX11_trade YX12_trade 60 [.int (xs (i + 1)), .int (xs (i + 2)), .int (xs (i + 3))] M := p_trade I
  refine l_call (As := [.int (xs (i + 1)), .int (xs (i + 2)), .int (xs (i + 3))]) (st := []) X YX11_trade cvL_56 dL_law_516 rfl rfl I.o0 rfl ⟨by omega, by omega⟩ (Nat.le_of_ble_eq_true rfl) h0 ?_
  rintro rv M1 ⟨v, rfl, o1, h2⟩ n1
  refine y_aload_n X.1 dL_law_519 1 rfl ?_
  refine s_ldc 1 X dL_law_520 dL_law_521 dL_law_523 dL_law_524 dL_law_525 (by decide) 3 rfl (by omega) ?_
  refine s_ldc 2 X dL_law_526 dL_law_527 dL_law_529 dL_law_530 dL_law_531 (by decide) 3 rfl (by omega) ?_
  refine s_ldc 3 X dL_law_532 dL_law_533 dL_law_535 dL_law_536 dL_law_537 (by decide) 3 rfl (by omega) ?_
  refine l_call (As := [.int (xs (i + 1)), .int (xs (i + 2)), .int (xs (i + 3))]) (st := [.int v]) X YX12_trade cvL_60 dL_law_538 rfl rfl o1 rfl ⟨by omega, by omega⟩ (Nat.le_of_ble_eq_true rfl) h2 ?_
  rintro rv2 M2 ⟨rfl, I2⟩ n2
  exact y_ic_eq X.1 1316 dL_law_541 (by decide) (fun _ => EQ.wid (Nat.le_add_right _ _) (Nat.le_add_right _ _) (k g M2 X I2 (n2.trans (n1.trans hn)))) (fun z => absurd rfl z)
theorem lc_8 (X : XL g p s m meth c b L xs) (I : Inv M) (hn : mn M = 173) (hi : i + 7 ≤ L) (hf : ce + 1 ≤ room_1.cells ∧ sl + 6 ≤ room_1.slots) (k : ∀ g2 M2, XL g2 p s m meth c b L xs → Inv M2 → mn M2 = 173 → EL g2 p e s m below meth c b Q (ce + 1) (sl + 6) 1316 (LV i) [] M2) : EL g p e s m below meth c b Q ce sl 546 (LV i) [] M := by
  refine y_aload_n X.1 dL_law_546 0 rfl ?_
  have h0 : Pr g YX11_turn YX12_turn 60 [] M := p_turn I
  refine l_call (As := []) (st := []) X YX11_turn cvL_61 dL_law_547 rfl rfl I.o0 rfl ⟨by omega, by omega⟩ (Nat.le_of_ble_eq_true rfl) h0 ?_
  rintro rv M1 ⟨v, rfl, o1, h2⟩ n1
  refine y_aload_n X.1 dL_law_550 1 rfl ?_
  refine l_call (As := []) (st := [.int v]) X YX12_turn cvL_64 dL_law_551 rfl rfl o1 rfl ⟨by omega, by omega⟩ (Nat.le_of_ble_eq_true rfl) h2 ?_
  rintro rv2 M2 ⟨rfl, I2⟩ n2
  exact y_ic_eq X.1 1316 dL_law_554 (by decide) (fun _ => EQ.wid (Nat.le_add_right _ _) (Nat.le_add_right _ _) (k g M2 X I2 (n2.trans (n1.trans hn)))) (fun z => absurd rfl z)
theorem lc_9 (X : XL g p s m meth c b L xs) (I : Inv M) (hn : mn M = 173) (hi : i + 7 ≤ L) (hf : ce + 1 ≤ room_1.cells ∧ sl + 6 ≤ room_1.slots) (k : ∀ g2 M2, XL g2 p s m meth c b L xs → Inv M2 → mn M2 = 173 → EL g2 p e s m below meth c b Q (ce + 1) (sl + 6) 1316 (LV i) [] M2) : EL g p e s m below meth c b Q ce sl 559 (LV i) [] M := by
  refine y_aload_n X.1 dL_law_559 0 rfl ?_
  have h0 : Pr g YX11_undo YX12_undo 60 [] M := p_undo I
  refine l_call (As := []) (st := []) X YX11_undo cvL_65 dL_law_560 rfl rfl I.o0 rfl ⟨by omega, by omega⟩ (Nat.le_of_ble_eq_true rfl) h0 ?_
  rintro rv M1 ⟨v, rfl, o1, h2⟩ n1
  refine y_aload_n X.1 dL_law_563 1 rfl ?_
  refine l_call (As := []) (st := [.int v]) X YX12_undo cvL_69 dL_law_564 rfl rfl o1 rfl ⟨by omega, by omega⟩ (Nat.le_of_ble_eq_true rfl) h2 ?_
  rintro rv2 M2 ⟨rfl, I2⟩ n2
  exact y_ic_eq X.1 1316 dL_law_567 (by decide) (fun _ => EQ.wid (Nat.le_add_right _ _) (Nat.le_add_right _ _) (k g M2 X I2 (n2.trans (n1.trans hn)))) (fun z => absurd rfl z)
theorem lc_10 (X : XL g p s m meth c b L xs) (I : Inv M) (hn : mn M = 173) (hi : i + 7 ≤ L) (hf : ce + 1 ≤ room_1.cells ∧ sl + 6 ≤ room_1.slots) (k : ∀ g2 M2, XL g2 p s m meth c b L xs → Inv M2 → mn M2 = 173 → EL g2 p e s m below meth c b Q (ce + 1) (sl + 6) 1316 (LV i) [] M2) : EL g p e s m below meth c b Q ce sl 572 (LV i) [] M := by
  refine y_aload_n X.1 dL_law_572 0 rfl ?_
  refine s_ldc 1 X dL_law_573 dL_law_574 dL_law_576 dL_law_577 dL_law_578 (by decide) 3 rfl (by omega) ?_
  have h0 : Pr g YX11_judged YX12_judged 60 [.int (xs (i + 1))] M := p_judged I
  refine l_call (As := [.int (xs (i + 1))]) (st := []) X YX11_judged cvL_70 dL_law_579 rfl rfl I.o0 rfl ⟨by omega, by omega⟩ (Nat.le_of_ble_eq_true rfl) h0 ?_
  rintro rv M1 ⟨v, rfl, o1, h2⟩ n1
  refine y_aload_n X.1 dL_law_582 1 rfl ?_
  refine s_ldc 1 X dL_law_583 dL_law_584 dL_law_586 dL_law_587 dL_law_588 (by decide) 3 rfl (by omega) ?_
  refine l_call (As := [.int (xs (i + 1))]) (st := [.int v]) X YX12_judged cvL_73 dL_law_589 rfl rfl o1 rfl ⟨by omega, by omega⟩ (Nat.le_of_ble_eq_true rfl) h2 ?_
  rintro rv2 M2 ⟨rfl, I2⟩ n2
  exact y_ic_eq X.1 1316 dL_law_592 (by decide) (fun _ => EQ.wid (Nat.le_add_right _ _) (Nat.le_add_right _ _) (k g M2 X I2 (n2.trans (n1.trans hn)))) (fun z => absurd rfl z)
theorem lc_11 (X : XL g p s m meth c b L xs) (I : Inv M) (hn : mn M = 173) (hi : i + 7 ≤ L) (hf : ce + 1 ≤ room_1.cells ∧ sl + 6 ≤ room_1.slots) (k : ∀ g2 M2, XL g2 p s m meth c b L xs → Inv M2 → mn M2 = 173 → EL g2 p e s m below meth c b Q (ce + 1) (sl + 6) 1316 (LV i) [] M2) : EL g p e s m below meth c b Q ce sl 597 (LV i) [] M := by
  refine y_aload_n X.1 dL_law_597 0 rfl ?_
  refine s_ldc 1 X dL_law_598 dL_law_599 dL_law_601 dL_law_602 dL_law_603 (by decide) 3 rfl (by omega) ?_
  refine s_ldc 2 X dL_law_604 dL_law_605 dL_law_607 dL_law_608 dL_law_609 (by decide) 3 rfl (by omega) ?_
  have h0 : Pr g YX11_shown YX12_shown 60 [.int (xs (i + 1)), .int (xs (i + 2))] M := p_shown I
  refine l_call (As := [.int (xs (i + 1)), .int (xs (i + 2))]) (st := []) X YX11_shown cvL_74 dL_law_610 rfl rfl I.o0 rfl ⟨by omega, by omega⟩ (Nat.le_of_ble_eq_true rfl) h0 ?_
  rintro rv M1 ⟨v, rfl, o1, h2⟩ n1
  refine y_aload_n X.1 dL_law_613 1 rfl ?_
  refine s_ldc 1 X dL_law_614 dL_law_615 dL_law_617 dL_law_618 dL_law_619 (by decide) 3 rfl (by omega) ?_
  refine s_ldc 2 X dL_law_620 dL_law_621 dL_law_623 dL_law_624 dL_law_625 (by decide) 3 rfl (by omega) ?_
  refine l_call (As := [.int (xs (i + 1)), .int (xs (i + 2))]) (st := [.int v]) X YX12_shown cvL_77 dL_law_626 rfl rfl o1 rfl ⟨by omega, by omega⟩ (Nat.le_of_ble_eq_true rfl) h2 ?_
  rintro rv2 M2 ⟨rfl, I2⟩ n2
  exact y_ic_eq X.1 1316 dL_law_629 (by decide) (fun _ => EQ.wid (Nat.le_add_right _ _) (Nat.le_add_right _ _) (k g M2 X I2 (n2.trans (n1.trans hn)))) (fun z => absurd rfl z)
theorem lc_12 (X : XL g p s m meth c b L xs) (I : Inv M) (hn : mn M = 173) (hi : i + 7 ≤ L) (hf : ce + 1 ≤ room_1.cells ∧ sl + 6 ≤ room_1.slots) (k : ∀ g2 M2, XL g2 p s m meth c b L xs → Inv M2 → mn M2 = 173 → EL g2 p e s m below meth c b Q (ce + 1) (sl + 6) 1316 (LV i) [] M2) : EL g p e s m below meth c b Q ce sl 634 (LV i) [] M := by
  refine y_aload_n X.1 dL_law_634 0 rfl ?_
  refine s_ldc 1 X dL_law_635 dL_law_636 dL_law_638 dL_law_639 dL_law_640 (by decide) 3 rfl (by omega) ?_
  have h0 : Pr g YX11_minutes YX12_minutes 60 [.int (xs (i + 1))] M := p_minutes I
  refine l_call (As := [.int (xs (i + 1))]) (st := []) X YX11_minutes cvL_78 dL_law_641 rfl rfl I.o0 rfl ⟨by omega, by omega⟩ (Nat.le_of_ble_eq_true rfl) h0 ?_
  rintro rv M1 ⟨v, rfl, o1, h2⟩ n1
  refine y_aload_n X.1 dL_law_644 1 rfl ?_
  refine s_ldc 1 X dL_law_645 dL_law_646 dL_law_648 dL_law_649 dL_law_650 (by decide) 3 rfl (by omega) ?_
  refine l_call (As := [.int (xs (i + 1))]) (st := [.int v]) X YX12_minutes cvL_81 dL_law_651 rfl rfl o1 rfl ⟨by omega, by omega⟩ (Nat.le_of_ble_eq_true rfl) h2 ?_
  rintro rv2 M2 ⟨rfl, I2⟩ n2
  exact y_ic_eq X.1 1316 dL_law_654 (by decide) (fun _ => EQ.wid (Nat.le_add_right _ _) (Nat.le_add_right _ _) (k g M2 X I2 (n2.trans (n1.trans hn)))) (fun z => absurd rfl z)
theorem lc_13 (X : XL g p s m meth c b L xs) (I : Inv M) (hn : mn M = 173) (hi : i + 7 ≤ L) (hf : ce + 1 ≤ room_1.cells ∧ sl + 6 ≤ room_1.slots) (k : ∀ g2 M2, XL g2 p s m meth c b L xs → Inv M2 → mn M2 = 173 → EL g2 p e s m below meth c b Q (ce + 1) (sl + 6) 1316 (LV i) [] M2) : EL g p e s m below meth c b Q ce sl 659 (LV i) [] M := by
  refine y_aload_n X.1 dL_law_659 0 rfl ?_
  have h0 : Pr g YX11_silly YX12_silly 60 [] M := p_silly I
  refine l_call (As := []) (st := []) X YX11_silly cvL_82 dL_law_660 rfl rfl I.o0 rfl ⟨by omega, by omega⟩ (Nat.le_of_ble_eq_true rfl) h0 ?_
  rintro rv M1 ⟨v, rfl, o1, h2⟩ n1
  refine y_aload_n X.1 dL_law_663 1 rfl ?_
  refine l_call (As := []) (st := [.int v]) X YX12_silly cvL_85 dL_law_664 rfl rfl o1 rfl ⟨by omega, by omega⟩ (Nat.le_of_ble_eq_true rfl) h2 ?_
  rintro rv2 M2 ⟨rfl, I2⟩ n2
  exact y_ic_eq X.1 1316 dL_law_667 (by decide) (fun _ => EQ.wid (Nat.le_add_right _ _) (Nat.le_add_right _ _) (k g M2 X I2 (n2.trans (n1.trans hn)))) (fun z => absurd rfl z)
theorem lc_14 (X : XL g p s m meth c b L xs) (I : Inv M) (hn : mn M = 173) (hi : i + 7 ≤ L) (hf : ce + 1 ≤ room_1.cells ∧ sl + 6 ≤ room_1.slots) (k : ∀ g2 M2, XL g2 p s m meth c b L xs → Inv M2 → mn M2 = 173 → EL g2 p e s m below meth c b Q (ce + 1) (sl + 6) 1316 (LV i) [] M2) : EL g p e s m below meth c b Q ce sl 672 (LV i) [] M := by
  refine y_aload_n X.1 dL_law_672 0 rfl ?_
  have h0 : Pr g YX11_lasts YX12_lasts 60 [] M := p_lasts I
  refine l_call (As := []) (st := []) X YX11_lasts cvL_86 dL_law_673 rfl rfl I.o0 rfl ⟨by omega, by omega⟩ (Nat.le_of_ble_eq_true rfl) h0 ?_
  rintro rv M1 ⟨v, rfl, o1, h2⟩ n1
  refine y_aload_n X.1 dL_law_676 1 rfl ?_
  refine l_call (As := []) (st := [.int v]) X YX12_lasts cvL_89 dL_law_677 rfl rfl o1 rfl ⟨by omega, by omega⟩ (Nat.le_of_ble_eq_true rfl) h2 ?_
  rintro rv2 M2 ⟨rfl, I2⟩ n2
  exact y_ic_eq X.1 1316 dL_law_680 (by decide) (fun _ => EQ.wid (Nat.le_add_right _ _) (Nat.le_add_right _ _) (k g M2 X I2 (n2.trans (n1.trans hn)))) (fun z => absurd rfl z)
theorem lc_15 (X : XL g p s m meth c b L xs) (I : Inv M) (hn : mn M = 173) (hi : i + 7 ≤ L) (hf : ce + 1 ≤ room_1.cells ∧ sl + 6 ≤ room_1.slots) (k : ∀ g2 M2, XL g2 p s m meth c b L xs → Inv M2 → mn M2 = 173 → EL g2 p e s m below meth c b Q (ce + 1) (sl + 6) 1316 (LV i) [] M2) : EL g p e s m below meth c b Q ce sl 685 (LV i) [] M := by
  refine y_aload_n X.1 dL_law_685 0 rfl ?_
  have h0 : Pr g YX11_sense YX12_sense 60 [] M := p_sense I
  refine l_call (As := []) (st := []) X YX11_sense cvL_90 dL_law_686 rfl rfl I.o0 rfl ⟨by omega, by omega⟩ (Nat.le_of_ble_eq_true rfl) h0 ?_
  rintro rv M1 ⟨v, rfl, o1, h2⟩ n1
  refine y_aload_n X.1 dL_law_689 1 rfl ?_
  refine l_call (As := []) (st := [.int v]) X YX12_sense cvL_93 dL_law_690 rfl rfl o1 rfl ⟨by omega, by omega⟩ (Nat.le_of_ble_eq_true rfl) h2 ?_
  rintro rv2 M2 ⟨rfl, I2⟩ n2
  exact y_ic_eq X.1 1316 dL_law_693 (by decide) (fun _ => EQ.wid (Nat.le_add_right _ _) (Nat.le_add_right _ _) (k g M2 X I2 (n2.trans (n1.trans hn)))) (fun z => absurd rfl z)
theorem lc_16 (X : XL g p s m meth c b L xs) (I : Inv M) (hn : mn M = 173) (hi : i + 7 ≤ L) (hf : ce + 1 ≤ room_1.cells ∧ sl + 6 ≤ room_1.slots) (k : ∀ g2 M2, XL g2 p s m meth c b L xs → Inv M2 → mn M2 = 173 → EL g2 p e s m below meth c b Q (ce + 1) (sl + 6) 1316 (LV i) [] M2) : EL g p e s m below meth c b Q ce sl 698 (LV i) [] M := by
  refine y_aload_n X.1 dL_law_698 0 rfl ?_
  refine s_ldc 1 X dL_law_699 dL_law_700 dL_law_702 dL_law_703 dL_law_704 (by decide) 3 rfl (by omega) ?_
  have h0 : Pr g YX11_gone YX12_gone 60 [.int (xs (i + 1))] M := p_gone I
  refine l_call (As := [.int (xs (i + 1))]) (st := []) X YX11_gone cvL_94 dL_law_705 rfl rfl I.o0 rfl ⟨by omega, by omega⟩ (Nat.le_of_ble_eq_true rfl) h0 ?_
  rintro rv M1 ⟨v, rfl, o1, h2⟩ n1
  refine y_aload_n X.1 dL_law_708 1 rfl ?_
  refine s_ldc 1 X dL_law_709 dL_law_710 dL_law_712 dL_law_713 dL_law_714 (by decide) 3 rfl (by omega) ?_
  refine l_call (As := [.int (xs (i + 1))]) (st := [.int v]) X YX12_gone cvL_97 dL_law_715 rfl rfl o1 rfl ⟨by omega, by omega⟩ (Nat.le_of_ble_eq_true rfl) h2 ?_
  rintro rv2 M2 ⟨rfl, I2⟩ n2
  exact y_ic_eq X.1 1316 dL_law_718 (by decide) (fun _ => EQ.wid (Nat.le_add_right _ _) (Nat.le_add_right _ _) (k g M2 X I2 (n2.trans (n1.trans hn)))) (fun z => absurd rfl z)
theorem lc_17 (X : XL g p s m meth c b L xs) (I : Inv M) (hn : mn M = 173) (hi : i + 7 ≤ L) (hf : ce + 1 ≤ room_1.cells ∧ sl + 6 ≤ room_1.slots) (k : ∀ g2 M2, XL g2 p s m meth c b L xs → Inv M2 → mn M2 = 173 → EL g2 p e s m below meth c b Q (ce + 1) (sl + 6) 1316 (LV i) [] M2) : EL g p e s m below meth c b Q ce sl 723 (LV i) [] M := by
  refine y_aload_n X.1 dL_law_723 0 rfl ?_
  refine s_ldc 1 X dL_law_724 dL_law_725 dL_law_727 dL_law_728 dL_law_729 (by decide) 3 rfl (by omega) ?_
  refine y_aload_n X.1 dL_law_730 2 rfl ?_
  obtain ⟨b9, hH⟩ : PrH g YL_saves YX12_saves hSv [.int (xs (i + 1))] M := p_saves X.2.2.2.2.1 hn I
  refine y_callH (As := [.ref 0, .int (xs (i + 1)), .ref 172]) (st := []) (d1 := 61) X.1 YL_saves chL_98 dL_law_731 rfl rfl hf ⟨by decide, by decide⟩ (Nat.le_of_ble_eq_true rfl) hH ?_
  rintro j rv M1 ⟨rfl, n1, o1, h2⟩
  have X2 := X.j j
  refine y_istore (lv1 := (5, .int (b2i b9)) :: LV i) X2.1 dL_law_734 (by decide) rfl rfl ?_
  refine y_aload_n X2.1 dL_law_736 2 rfl ?_
  refine s_ldc 1 X2 dL_law_737 dL_law_738 dL_law_740 dL_law_741 dL_law_742 (by decide) 4 rfl (by omega) ?_
  refine l_call (As := [.int (xs (i + 1))]) (st := []) X2 YX12_saves cvL_103 dL_law_743 rfl rfl o1 rfl hf (Nat.le_of_ble_eq_true rfl) (h2 j) ?_
  rintro rv2 M2 ⟨v2, rfl, t0, e7, I2⟩ n2
  refine y_istore (lv1 := (6, .int v2) :: (5, .int (b2i b9)) :: LV i) X2.1 dL_law_746 (by decide) rfl rfl ?_
  refine y_aload_n X2.1 dL_law_748 3 rfl ?_
  refine l_call (As := []) (st := []) X2 YX12_thrown cvL_104 dL_law_749 rfl rfl I2.o130 rfl hf (Nat.le_of_ble_eq_true rfl) I2.thrown ?_
  rintro rv3 M3 ⟨rfl, rfl⟩ n3
  rw [t0]
  refine y_iload X2.1 dL_law_752 1 rfl ?_
  refine y_ic_eq X2.1 759 dL_law_754 (by decide) (fun _ => ?_) (fun z => absurd rfl z)
  have fin : EL (gj g j) p e s m below meth c b Q (ce + 1) (sl + 6) 776 ((6, .int v2) :: (5, .int (b2i b9)) :: LV i) [] M3 := y_goto X2.1 1316 dL_law_776 (by decide) (EQ.sub [2, 3, 4, 5] (k (gj g j) M3 X2 I2 (n2.trans n1)) rfl)
  refine y_iload X2.1 dL_law_759 1 rfl ?_
  refine y_if_ne X2.1 776 dL_law_761 (by decide) (fun _ => fin) (fun z => ?_)
  refine y_aload_n X2.1 dL_law_764 4 rfl ?_
  refine y_iconst (v := 0) X2.1 dL_law_765 (by decide) ?_
  refine y_lald X2.1 dL_law_766 I2.o172.1 I2.o172.2 (by unfold vp_in; decide) ?_
  refine y_iload X2.1 dL_law_767 0 rfl ?_
  refine y_i2l X2.1 dL_law_769 ?_
  refine y_lcmp X2.1 dL_law_770 ?_
  exact y_if_eq X2.1 776 dL_law_771 (by decide) (fun _ => fin) (fun y => absurd (lg_eq.mpr (e7 (b2i_z.mp z))) y)
theorem lc_18 (X : XL g p s m meth c b L xs) (I : Inv M) (hn : mn M = 173) (hi : i + 7 ≤ L) (hf : ce + 1 ≤ room_1.cells ∧ sl + 6 ≤ room_1.slots) (k : ∀ g2 M2, XL g2 p s m meth c b L xs → Inv M2 → mn M2 = 173 → EL g2 p e s m below meth c b Q (ce + 1) (sl + 6) 1316 (LV i) [] M2) : EL g p e s m below meth c b Q ce sl 779 (LV i) [] M := by
  refine y_aload_n X.1 dL_law_779 0 rfl ?_
  refine s_ldc 1 X dL_law_780 dL_law_781 dL_law_783 dL_law_784 dL_law_785 (by decide) 3 rfl (by omega) ?_
  have h0 : Pr g YX11_kin YX12_kin 60 [.int (xs (i + 1))] M := p_kin I
  refine l_call (As := [.int (xs (i + 1))]) (st := []) X YX11_kin cvL_107 dL_law_786 rfl rfl I.o0 rfl ⟨by omega, by omega⟩ (Nat.le_of_ble_eq_true rfl) h0 ?_
  rintro rv M1 ⟨v, rfl, o1, h2⟩ n1
  refine y_aload_n X.1 dL_law_789 1 rfl ?_
  refine s_ldc 1 X dL_law_790 dL_law_791 dL_law_793 dL_law_794 dL_law_795 (by decide) 3 rfl (by omega) ?_
  refine l_call (As := [.int (xs (i + 1))]) (st := [.int v]) X YX12_kin cvL_110 dL_law_796 rfl rfl o1 rfl ⟨by omega, by omega⟩ (Nat.le_of_ble_eq_true rfl) h2 ?_
  rintro rv2 M2 ⟨rfl, I2⟩ n2
  exact y_ic_eq X.1 1316 dL_law_799 (by decide) (fun _ => EQ.wid (Nat.le_add_right _ _) (Nat.le_add_right _ _) (k g M2 X I2 (n2.trans (n1.trans hn)))) (fun z => absurd rfl z)
theorem lc_19 (X : XL g p s m meth c b L xs) (I : Inv M) (hn : mn M = 173) (hi : i + 7 ≤ L) (hf : ce + 1 ≤ room_1.cells ∧ sl + 6 ≤ room_1.slots) (k : ∀ g2 M2, XL g2 p s m meth c b L xs → Inv M2 → mn M2 = 173 → EL g2 p e s m below meth c b Q (ce + 1) (sl + 6) 1316 (LV i) [] M2) : EL g p e s m below meth c b Q ce sl 804 (LV i) [] M := by
  refine y_aload_n X.1 dL_law_804 0 rfl ?_
  refine s_ldc 1 X dL_law_805 dL_law_806 dL_law_808 dL_law_809 dL_law_810 (by decide) 3 rfl (by omega) ?_
  have h0 : Pr g YX11_hoard YX12_hoard 60 [.int (xs (i + 1))] M := p_hoard I
  refine l_call (As := [.int (xs (i + 1))]) (st := []) X YX11_hoard cvL_111 dL_law_811 rfl rfl I.o0 rfl ⟨by omega, by omega⟩ (Nat.le_of_ble_eq_true rfl) h0 ?_
  rintro rv M1 ⟨v, rfl, o1, h2⟩ n1
  refine y_aload_n X.1 dL_law_814 1 rfl ?_
  refine s_ldc 1 X dL_law_815 dL_law_816 dL_law_818 dL_law_819 dL_law_820 (by decide) 3 rfl (by omega) ?_
  refine l_call (As := [.int (xs (i + 1))]) (st := [.int v]) X YX12_hoard cvL_114 dL_law_821 rfl rfl o1 rfl ⟨by omega, by omega⟩ (Nat.le_of_ble_eq_true rfl) h2 ?_
  rintro rv2 M2 ⟨rfl, I2⟩ n2
  exact y_ic_eq X.1 1316 dL_law_824 (by decide) (fun _ => EQ.wid (Nat.le_add_right _ _) (Nat.le_add_right _ _) (k g M2 X I2 (n2.trans (n1.trans hn)))) (fun z => absurd rfl z)
theorem lc_20 (X : XL g p s m meth c b L xs) (I : Inv M) (hn : mn M = 173) (hi : i + 7 ≤ L) (hf : ce + 1 ≤ room_1.cells ∧ sl + 6 ≤ room_1.slots) (k : ∀ g2 M2, XL g2 p s m meth c b L xs → Inv M2 → mn M2 = 173 → EL g2 p e s m below meth c b Q (ce + 1) (sl + 6) 1316 (LV i) [] M2) : EL g p e s m below meth c b Q ce sl 829 (LV i) [] M := by
  refine y_aload_n X.1 dL_law_829 0 rfl ?_
  have h0 : Pr g YX11_longest YX12_longest 60 [] M := p_longest I
  refine l_call (As := []) (st := []) X YX11_longest cvL_115 dL_law_830 rfl rfl I.o0 rfl ⟨by omega, by omega⟩ (Nat.le_of_ble_eq_true rfl) h0 ?_
  rintro rv M1 ⟨v, rfl, o1, h2⟩ n1
  refine y_aload_n X.1 dL_law_833 1 rfl ?_
  refine l_call (As := []) (st := [.int v]) X YX12_longest cvL_118 dL_law_834 rfl rfl o1 rfl ⟨by omega, by omega⟩ (Nat.le_of_ble_eq_true rfl) h2 ?_
  rintro rv2 M2 ⟨rfl, I2⟩ n2
  exact y_ic_eq X.1 1316 dL_law_837 (by decide) (fun _ => EQ.wid (Nat.le_add_right _ _) (Nat.le_add_right _ _) (k g M2 X I2 (n2.trans (n1.trans hn)))) (fun z => absurd rfl z)
theorem lc_21 (X : XL g p s m meth c b L xs) (I : Inv M) (hn : mn M = 173) (hi : i + 7 ≤ L) (hf : ce + 1 ≤ room_1.cells ∧ sl + 6 ≤ room_1.slots) (k : ∀ g2 M2, XL g2 p s m meth c b L xs → Inv M2 → mn M2 = 173 → EL g2 p e s m below meth c b Q (ce + 1) (sl + 6) 1316 (LV i) [] M2) : EL g p e s m below meth c b Q ce sl 842 (LV i) [] M := by
  refine y_aload_n X.1 dL_law_842 0 rfl ?_
  refine s_ldc 1 X dL_law_843 dL_law_844 dL_law_846 dL_law_847 dL_law_848 (by decide) 3 rfl (by omega) ?_
  have h0 : Pr g YX11_order YX12_order 60 [.int (xs (i + 1))] M := p_order I
  refine l_call (As := [.int (xs (i + 1))]) (st := []) X YX11_order cvL_119 dL_law_849 rfl rfl I.o0 rfl ⟨by omega, by omega⟩ (Nat.le_of_ble_eq_true rfl) h0 ?_
  rintro rv M1 ⟨v, rfl, o1, h2⟩ n1
  refine y_aload_n X.1 dL_law_852 1 rfl ?_
  refine s_ldc 1 X dL_law_853 dL_law_854 dL_law_856 dL_law_857 dL_law_858 (by decide) 3 rfl (by omega) ?_
  refine l_call (As := [.int (xs (i + 1))]) (st := [.int v]) X YX12_order cvL_122 dL_law_859 rfl rfl o1 rfl ⟨by omega, by omega⟩ (Nat.le_of_ble_eq_true rfl) h2 ?_
  rintro rv2 M2 ⟨rfl, I2⟩ n2
  exact y_ic_eq X.1 1316 dL_law_862 (by decide) (fun _ => EQ.wid (Nat.le_add_right _ _) (Nat.le_add_right _ _) (k g M2 X I2 (n2.trans (n1.trans hn)))) (fun z => absurd rfl z)
theorem lc_22 (X : XL g p s m meth c b L xs) (I : Inv M) (hn : mn M = 173) (hi : i + 7 ≤ L) (hf : ce + 1 ≤ room_1.cells ∧ sl + 6 ≤ room_1.slots) (k : ∀ g2 M2, XL g2 p s m meth c b L xs → Inv M2 → mn M2 = 173 → EL g2 p e s m below meth c b Q (ce + 1) (sl + 6) 1316 (LV i) [] M2) : EL g p e s m below meth c b Q ce sl 867 (LV i) [] M := by
  refine y_aload_n X.1 dL_law_867 0 rfl ?_
  have h0 : Pr g YX11_ride YX12_ride 60 [] M := p_ride I
  refine l_call (As := []) (st := []) X YX11_ride cvL_123 dL_law_868 rfl rfl I.o0 rfl ⟨by omega, by omega⟩ (Nat.le_of_ble_eq_true rfl) h0 ?_
  rintro rv M1 ⟨v, rfl, o1, h2⟩ n1
  refine y_aload_n X.1 dL_law_871 1 rfl ?_
  refine l_call (As := []) (st := [.int v]) X YX12_ride cvL_126 dL_law_872 rfl rfl o1 rfl ⟨by omega, by omega⟩ (Nat.le_of_ble_eq_true rfl) h2 ?_
  rintro rv2 M2 ⟨rfl, I2⟩ n2
  exact y_ic_eq X.1 1316 dL_law_875 (by decide) (fun _ => EQ.wid (Nat.le_add_right _ _) (Nat.le_add_right _ _) (k g M2 X I2 (n2.trans (n1.trans hn)))) (fun z => absurd rfl z)
theorem lc_23 (X : XL g p s m meth c b L xs) (I : Inv M) (hn : mn M = 173) (hi : i + 7 ≤ L) (hf : ce + 1 ≤ room_1.cells ∧ sl + 6 ≤ room_1.slots) (k : ∀ g2 M2, XL g2 p s m meth c b L xs → Inv M2 → mn M2 = 173 → EL g2 p e s m below meth c b Q (ce + 1) (sl + 6) 1316 (LV i) [] M2) : EL g p e s m below meth c b Q ce sl 880 (LV i) [] M := by
  refine y_aload_n X.1 dL_law_880 0 rfl ?_
  refine s_ldc 1 X dL_law_881 dL_law_882 dL_law_884 dL_law_885 dL_law_886 (by decide) 3 rfl (by omega) ?_
  have h0 : Pr g YX11_other YX12_other 60 [.int (xs (i + 1))] M := p_other I
  refine l_call (As := [.int (xs (i + 1))]) (st := []) X YX11_other cvL_127 dL_law_887 rfl rfl I.o0 rfl ⟨by omega, by omega⟩ (Nat.le_of_ble_eq_true rfl) h0 ?_
  rintro rv M1 ⟨v, rfl, o1, h2⟩ n1
  refine y_aload_n X.1 dL_law_890 1 rfl ?_
  refine s_ldc 1 X dL_law_891 dL_law_892 dL_law_894 dL_law_895 dL_law_896 (by decide) 3 rfl (by omega) ?_
  refine l_call (As := [.int (xs (i + 1))]) (st := [.int v]) X YX12_other cvL_130 dL_law_897 rfl rfl o1 rfl ⟨by omega, by omega⟩ (Nat.le_of_ble_eq_true rfl) h2 ?_
  rintro rv2 M2 ⟨rfl, I2⟩ n2
  exact y_ic_eq X.1 1316 dL_law_900 (by decide) (fun _ => EQ.wid (Nat.le_add_right _ _) (Nat.le_add_right _ _) (k g M2 X I2 (n2.trans (n1.trans hn)))) (fun z => absurd rfl z)
theorem lc_24 (X : XL g p s m meth c b L xs) (I : Inv M) (hn : mn M = 173) (hi : i + 7 ≤ L) (hf : ce + 1 ≤ room_1.cells ∧ sl + 6 ≤ room_1.slots) (k : ∀ g2 M2, XL g2 p s m meth c b L xs → Inv M2 → mn M2 = 173 → EL g2 p e s m below meth c b Q (ce + 1) (sl + 6) 1316 (LV i) [] M2) : EL g p e s m below meth c b Q ce sl 905 (LV i) [] M := by
  refine y_aload_n X.1 dL_law_905 0 rfl ?_
  have h0 : Pr g YX11_mends YX12_mends 60 [] M := p_mends I
  refine l_call (As := []) (st := []) X YX11_mends cvL_131 dL_law_906 rfl rfl I.o0 rfl ⟨by omega, by omega⟩ (Nat.le_of_ble_eq_true rfl) h0 ?_
  rintro rv M1 ⟨v, rfl, o1, h2⟩ n1
  refine y_aload_n X.1 dL_law_909 1 rfl ?_
  refine l_call (As := []) (st := [.int v]) X YX12_mends cvL_134 dL_law_910 rfl rfl o1 rfl ⟨by omega, by omega⟩ (Nat.le_of_ble_eq_true rfl) h2 ?_
  rintro rv2 M2 ⟨rfl, I2⟩ n2
  exact y_ic_eq X.1 1316 dL_law_913 (by decide) (fun _ => EQ.wid (Nat.le_add_right _ _) (Nat.le_add_right _ _) (k g M2 X I2 (n2.trans (n1.trans hn)))) (fun z => absurd rfl z)
theorem lc_25 (X : XL g p s m meth c b L xs) (I : Inv M) (hn : mn M = 173) (hi : i + 7 ≤ L) (hf : ce + 1 ≤ room_1.cells ∧ sl + 6 ≤ room_1.slots) (k : ∀ g2 M2, XL g2 p s m meth c b L xs → Inv M2 → mn M2 = 173 → EL g2 p e s m below meth c b Q (ce + 1) (sl + 6) 1316 (LV i) [] M2) : EL g p e s m below meth c b Q ce sl 918 (LV i) [] M := by
  refine y_aload_n X.1 dL_law_918 0 rfl ?_
  refine s_ldc 1 X dL_law_919 dL_law_920 dL_law_922 dL_law_923 dL_law_924 (by decide) 3 rfl (by omega) ?_
  have h0 : Pr g YX11_where YX12_where 60 [.int (xs (i + 1))] M := p_where I
  refine l_call (As := [.int (xs (i + 1))]) (st := []) X YX11_where cvL_135 dL_law_925 rfl rfl I.o0 rfl ⟨by omega, by omega⟩ (Nat.le_of_ble_eq_true rfl) h0 ?_
  rintro rv M1 ⟨v, rfl, o1, h2⟩ n1
  refine y_aload_n X.1 dL_law_928 1 rfl ?_
  refine s_ldc 1 X dL_law_929 dL_law_930 dL_law_932 dL_law_933 dL_law_934 (by decide) 3 rfl (by omega) ?_
  refine l_call (As := [.int (xs (i + 1))]) (st := [.int v]) X YX12_where cvL_138 dL_law_935 rfl rfl o1 rfl ⟨by omega, by omega⟩ (Nat.le_of_ble_eq_true rfl) h2 ?_
  rintro rv2 M2 ⟨rfl, I2⟩ n2
  exact y_ic_eq X.1 1316 dL_law_938 (by decide) (fun _ => EQ.wid (Nat.le_add_right _ _) (Nat.le_add_right _ _) (k g M2 X I2 (n2.trans (n1.trans hn)))) (fun z => absurd rfl z)
theorem lc_26 (X : XL g p s m meth c b L xs) (I : Inv M) (hn : mn M = 173) (hi : i + 7 ≤ L) (hf : ce + 1 ≤ room_1.cells ∧ sl + 6 ≤ room_1.slots) (k : ∀ g2 M2, XL g2 p s m meth c b L xs → Inv M2 → mn M2 = 173 → EL g2 p e s m below meth c b Q (ce + 1) (sl + 6) 1316 (LV i) [] M2) : EL g p e s m below meth c b Q ce sl 943 (LV i) [] M := by
  refine y_aload_n X.1 dL_law_943 0 rfl ?_
  refine s_ldc 1 X dL_law_944 dL_law_945 dL_law_947 dL_law_948 dL_law_949 (by decide) 3 rfl (by omega) ?_
  refine s_ldc 2 X dL_law_950 dL_law_951 dL_law_953 dL_law_954 dL_law_955 (by decide) 3 rfl (by omega) ?_
  have h0 : Pr g YX11_taste YX12_taste 60 [.int (xs (i + 1)), .int (xs (i + 2))] M := p_taste I
  refine l_call (As := [.int (xs (i + 1)), .int (xs (i + 2))]) (st := []) X YX11_taste cvL_139 dL_law_956 rfl rfl I.o0 rfl ⟨by omega, by omega⟩ (Nat.le_of_ble_eq_true rfl) h0 ?_
  rintro rv M1 ⟨v, rfl, o1, h2⟩ n1
  refine y_aload_n X.1 dL_law_959 1 rfl ?_
  refine s_ldc 1 X dL_law_960 dL_law_961 dL_law_963 dL_law_964 dL_law_965 (by decide) 3 rfl (by omega) ?_
  refine s_ldc 2 X dL_law_966 dL_law_967 dL_law_969 dL_law_970 dL_law_971 (by decide) 3 rfl (by omega) ?_
  refine l_call (As := [.int (xs (i + 1)), .int (xs (i + 2))]) (st := [.int v]) X YX12_taste cvL_142 dL_law_972 rfl rfl o1 rfl ⟨by omega, by omega⟩ (Nat.le_of_ble_eq_true rfl) h2 ?_
  rintro rv2 M2 ⟨rfl, I2⟩ n2
  exact y_ic_eq X.1 1316 dL_law_975 (by decide) (fun _ => EQ.wid (Nat.le_add_right _ _) (Nat.le_add_right _ _) (k g M2 X I2 (n2.trans (n1.trans hn)))) (fun z => absurd rfl z)
theorem lc_27 (X : XL g p s m meth c b L xs) (I : Inv M) (hn : mn M = 173) (hi : i + 7 ≤ L) (hf : ce + 1 ≤ room_1.cells ∧ sl + 6 ≤ room_1.slots) (k : ∀ g2 M2, XL g2 p s m meth c b L xs → Inv M2 → mn M2 = 173 → EL g2 p e s m below meth c b Q (ce + 1) (sl + 6) 1316 (LV i) [] M2) : EL g p e s m below meth c b Q ce sl 980 (LV i) [] M := by
  refine y_aload_n X.1 dL_law_980 0 rfl ?_
  have h0 : Pr g YX11_mild YX12_mild 60 [] M := p_mild I
  refine l_call (As := []) (st := []) X YX11_mild cvL_143 dL_law_981 rfl rfl I.o0 rfl ⟨by omega, by omega⟩ (Nat.le_of_ble_eq_true rfl) h0 ?_
  rintro rv M1 ⟨v, rfl, o1, h2⟩ n1
  refine y_aload_n X.1 dL_law_984 1 rfl ?_
  refine l_call (As := []) (st := [.int v]) X YX12_mild cvL_146 dL_law_985 rfl rfl o1 rfl ⟨by omega, by omega⟩ (Nat.le_of_ble_eq_true rfl) h2 ?_
  rintro rv2 M2 ⟨rfl, I2⟩ n2
  exact y_ic_eq X.1 1316 dL_law_988 (by decide) (fun _ => EQ.wid (Nat.le_add_right _ _) (Nat.le_add_right _ _) (k g M2 X I2 (n2.trans (n1.trans hn)))) (fun z => absurd rfl z)
theorem lc_28 (X : XL g p s m meth c b L xs) (I : Inv M) (hn : mn M = 173) (hi : i + 7 ≤ L) (hf : ce + 1 ≤ room_1.cells ∧ sl + 6 ≤ room_1.slots) (k : ∀ g2 M2, XL g2 p s m meth c b L xs → Inv M2 → mn M2 = 173 → EL g2 p e s m below meth c b Q (ce + 1) (sl + 6) 1316 (LV i) [] M2) : EL g p e s m below meth c b Q ce sl 993 (LV i) [] M := by
  refine y_aload_n X.1 dL_law_993 0 rfl ?_
  refine s_ldc 1 X dL_law_994 dL_law_995 dL_law_997 dL_law_998 dL_law_999 (by decide) 3 rfl (by omega) ?_
  refine s_ldc 2 X dL_law_1000 dL_law_1001 dL_law_1003 dL_law_1004 dL_law_1005 (by decide) 3 rfl (by omega) ?_
  refine s_b01 X dL_law_1006 dL_law_1009 dL_law_1010 dL_law_1013 ?_
  have h0 : Pr g YX11_see YX12_see 60 [.int (xs (i + 1)), .int (b2i (decide (xs (i + 2) ≠ 0)))] M := p_see I
  refine l_call (As := [.int (xs (i + 1)), .int (b2i (decide (xs (i + 2) ≠ 0)))]) (st := []) X YX11_see cvL_147 dL_law_1014 rfl rfl I.o0 rfl ⟨by omega, by omega⟩ (Nat.le_of_ble_eq_true rfl) h0 ?_
  rintro rv M1 ⟨v, rfl, o1, h2⟩ n1
  refine y_aload_n X.1 dL_law_1017 1 rfl ?_
  refine s_ldc 1 X dL_law_1018 dL_law_1019 dL_law_1021 dL_law_1022 dL_law_1023 (by decide) 3 rfl (by omega) ?_
  refine s_ldc 2 X dL_law_1024 dL_law_1025 dL_law_1027 dL_law_1028 dL_law_1029 (by decide) 3 rfl (by omega) ?_
  refine s_b01 X dL_law_1030 dL_law_1033 dL_law_1034 dL_law_1037 ?_
  refine l_call (As := [.int (xs (i + 1)), .int (b2i (decide (xs (i + 2) ≠ 0)))]) (st := [.int v]) X YX12_see cvL_151 dL_law_1038 rfl rfl o1 rfl ⟨by omega, by omega⟩ (Nat.le_of_ble_eq_true rfl) h2 ?_
  rintro rv2 M2 ⟨rfl, I2⟩ n2
  exact y_ic_eq X.1 1316 dL_law_1041 (by decide) (fun _ => EQ.wid (Nat.le_add_right _ _) (Nat.le_add_right _ _) (k g M2 X I2 (n2.trans (n1.trans hn)))) (fun z => absurd rfl z)
theorem lc_29 (X : XL g p s m meth c b L xs) (I : Inv M) (hn : mn M = 173) (hi : i + 7 ≤ L) (hf : ce + 1 ≤ room_1.cells ∧ sl + 6 ≤ room_1.slots) (k : ∀ g2 M2, XL g2 p s m meth c b L xs → Inv M2 → mn M2 = 173 → EL g2 p e s m below meth c b Q (ce + 1) (sl + 6) 1316 (LV i) [] M2) : EL g p e s m below meth c b Q ce sl 1046 (LV i) [] M := by
  refine y_aload_n X.1 dL_law_1046 0 rfl ?_
  have h0 : Pr g YX11_halls YX12_halls 60 [] M := p_halls I
  refine l_call (As := []) (st := []) X YX11_halls cvL_152 dL_law_1047 rfl rfl I.o0 rfl ⟨by omega, by omega⟩ (Nat.le_of_ble_eq_true rfl) h0 ?_
  rintro rv M1 ⟨v, rfl, o1, h2⟩ n1
  refine y_aload_n X.1 dL_law_1050 1 rfl ?_
  refine l_call (As := []) (st := [.int v]) X YX12_halls cvL_155 dL_law_1051 rfl rfl o1 rfl ⟨by omega, by omega⟩ (Nat.le_of_ble_eq_true rfl) h2 ?_
  rintro rv2 M2 ⟨rfl, I2⟩ n2
  exact y_ic_eq X.1 1316 dL_law_1054 (by decide) (fun _ => EQ.wid (Nat.le_add_right _ _) (Nat.le_add_right _ _) (k g M2 X I2 (n2.trans (n1.trans hn)))) (fun z => absurd rfl z)
theorem lc_30 (X : XL g p s m meth c b L xs) (I : Inv M) (hn : mn M = 173) (hi : i + 7 ≤ L) (hf : ce + 1 ≤ room_1.cells ∧ sl + 6 ≤ room_1.slots) (k : ∀ g2 M2, XL g2 p s m meth c b L xs → Inv M2 → mn M2 = 173 → EL g2 p e s m below meth c b Q (ce + 1) (sl + 6) 1316 (LV i) [] M2) : EL g p e s m below meth c b Q ce sl 1059 (LV i) [] M := by
  refine y_aload_n X.1 dL_law_1059 0 rfl ?_
  have h0 : Pr g YX11_ask YX12_ask 60 [] M := p_ask I
  refine l_call (As := []) (st := []) X YX11_ask cvL_156 dL_law_1060 rfl rfl I.o0 rfl ⟨by omega, by omega⟩ (Nat.le_of_ble_eq_true rfl) h0 ?_
  rintro rv M1 ⟨v, rfl, o1, h2⟩ n1
  refine y_aload_n X.1 dL_law_1063 1 rfl ?_
  refine l_call (As := []) (st := [.int v]) X YX12_ask cvL_159 dL_law_1064 rfl rfl o1 rfl ⟨by omega, by omega⟩ (Nat.le_of_ble_eq_true rfl) h2 ?_
  rintro rv2 M2 ⟨rfl, I2⟩ n2
  exact y_ic_eq X.1 1316 dL_law_1067 (by decide) (fun _ => EQ.wid (Nat.le_add_right _ _) (Nat.le_add_right _ _) (k g M2 X I2 (n2.trans (n1.trans hn)))) (fun z => absurd rfl z)
theorem lc_31 (X : XL g p s m meth c b L xs) (I : Inv M) (hn : mn M = 173) (hi : i + 7 ≤ L) (hf : ce + 1 ≤ room_1.cells ∧ sl + 6 ≤ room_1.slots) (k : ∀ g2 M2, XL g2 p s m meth c b L xs → Inv M2 → mn M2 = 173 → EL g2 p e s m below meth c b Q (ce + 1) (sl + 6) 1316 (LV i) [] M2) : EL g p e s m below meth c b Q ce sl 1072 (LV i) [] M := by
  refine y_aload_n X.1 dL_law_1072 0 rfl ?_
  refine s_ldc 1 X dL_law_1073 dL_law_1074 dL_law_1076 dL_law_1077 dL_law_1078 (by decide) 3 rfl (by omega) ?_
  refine s_ldc 2 X dL_law_1079 dL_law_1080 dL_law_1082 dL_law_1083 dL_law_1084 (by decide) 3 rfl (by omega) ?_
  refine s_ldc 3 X dL_law_1085 dL_law_1086 dL_law_1088 dL_law_1089 dL_law_1090 (by decide) 3 rfl (by omega) ?_
  refine s_ldc 4 X dL_law_1091 dL_law_1092 dL_law_1094 dL_law_1095 dL_law_1096 (by decide) 3 rfl (by omega) ?_
  refine y_aload_n X.1 dL_law_1097 2 rfl ?_
  obtain ⟨b9, hH⟩ : PrH g YL_rests YX12_rests hRs [.int (xs (i + 1)), .int (xs (i + 2)), .int (xs (i + 3)), .int (xs (i + 4))] M := p_rests X.2.2.2.2.1 hn I
  refine y_callH (As := [.ref 0, .int (xs (i + 1)), .int (xs (i + 2)), .int (xs (i + 3)), .int (xs (i + 4)), .ref 172]) (st := []) (d1 := 61) X.1 YL_rests chL_160 dL_law_1098 rfl rfl hf ⟨by decide, by decide⟩ (Nat.le_of_ble_eq_true rfl) hH ?_
  rintro j rv M1 ⟨rfl, n1, o1, h2⟩
  have X2 := X.j j
  refine y_istore (lv1 := (5, .int (b2i b9)) :: LV i) X2.1 dL_law_1101 (by decide) rfl rfl ?_
  refine y_aload_n X2.1 dL_law_1103 2 rfl ?_
  refine s_ldc 1 X2 dL_law_1104 dL_law_1105 dL_law_1107 dL_law_1108 dL_law_1109 (by decide) 4 rfl (by omega) ?_
  refine s_ldc 2 X2 dL_law_1110 dL_law_1111 dL_law_1113 dL_law_1114 dL_law_1115 (by decide) 4 rfl (by omega) ?_
  refine s_ldc 3 X2 dL_law_1116 dL_law_1117 dL_law_1119 dL_law_1120 dL_law_1121 (by decide) 4 rfl (by omega) ?_
  refine s_ldc 4 X2 dL_law_1122 dL_law_1123 dL_law_1125 dL_law_1126 dL_law_1127 (by decide) 4 rfl (by omega) ?_
  refine l_call (As := [.int (xs (i + 1)), .int (xs (i + 2)), .int (xs (i + 3)), .int (xs (i + 4))]) (st := []) X2 YX12_rests cvL_163 dL_law_1128 rfl rfl o1 rfl hf (Nat.le_of_ble_eq_true rfl) (h2 j) ?_
  rintro rv2 M2 ⟨v2, rfl, t0, e7, I2⟩ n2
  refine y_istore (lv1 := (6, .int v2) :: (5, .int (b2i b9)) :: LV i) X2.1 dL_law_1131 (by decide) rfl rfl ?_
  refine y_aload_n X2.1 dL_law_1133 3 rfl ?_
  refine l_call (As := []) (st := []) X2 YX12_thrown cvL_104 dL_law_1134 rfl rfl I2.o130 rfl hf (Nat.le_of_ble_eq_true rfl) I2.thrown ?_
  rintro rv3 M3 ⟨rfl, rfl⟩ n3
  rw [t0]
  refine y_iload X2.1 dL_law_1137 1 rfl ?_
  refine y_ic_eq X2.1 1144 dL_law_1139 (by decide) (fun _ => ?_) (fun z => absurd rfl z)
  have fin : EL (gj g j) p e s m below meth c b Q (ce + 1) (sl + 6) 1161 ((6, .int v2) :: (5, .int (b2i b9)) :: LV i) [] M3 := y_goto X2.1 1316 dL_law_1161 (by decide) (EQ.sub [2, 3, 4, 5] (k (gj g j) M3 X2 I2 (n2.trans n1)) rfl)
  refine y_iload X2.1 dL_law_1144 1 rfl ?_
  refine y_if_ne X2.1 1161 dL_law_1146 (by decide) (fun _ => fin) (fun z => ?_)
  refine y_aload_n X2.1 dL_law_1149 4 rfl ?_
  refine y_iconst (v := 0) X2.1 dL_law_1150 (by decide) ?_
  refine y_lald X2.1 dL_law_1151 I2.o172.1 I2.o172.2 (by unfold vp_in; decide) ?_
  refine y_iload X2.1 dL_law_1152 0 rfl ?_
  refine y_i2l X2.1 dL_law_1154 ?_
  refine y_lcmp X2.1 dL_law_1155 ?_
  exact y_if_eq X2.1 1161 dL_law_1156 (by decide) (fun _ => fin) (fun y => absurd (lg_eq.mpr (e7 (b2i_z.mp z))) y)
theorem lc_32 (X : XL g p s m meth c b L xs) (I : Inv M) (hn : mn M = 173) (hi : i + 7 ≤ L) (hf : ce + 1 ≤ room_1.cells ∧ sl + 6 ≤ room_1.slots) (k : ∀ g2 M2, XL g2 p s m meth c b L xs → Inv M2 → mn M2 = 173 → EL g2 p e s m below meth c b Q (ce + 1) (sl + 6) 1316 (LV i) [] M2) : EL g p e s m below meth c b Q ce sl 1164 (LV i) [] M := by
  refine y_aload_n X.1 dL_law_1164 0 rfl ?_
  refine s_ldc 1 X dL_law_1165 dL_law_1166 dL_law_1168 dL_law_1169 dL_law_1170 (by decide) 3 rfl (by omega) ?_
  have h0 : Pr g YX11_share YX12_share 60 [.int (xs (i + 1))] M := p_share I
  refine l_call (As := [.int (xs (i + 1))]) (st := []) X YX11_share cvL_164 dL_law_1171 rfl rfl I.o0 rfl ⟨by omega, by omega⟩ (Nat.le_of_ble_eq_true rfl) h0 ?_
  rintro rv M1 ⟨v, rfl, o1, h2⟩ n1
  refine y_aload_n X.1 dL_law_1174 1 rfl ?_
  refine s_ldc 1 X dL_law_1175 dL_law_1176 dL_law_1178 dL_law_1179 dL_law_1180 (by decide) 3 rfl (by omega) ?_
  refine l_call (As := [.int (xs (i + 1))]) (st := [.int v]) X YX12_share cvL_167 dL_law_1181 rfl rfl o1 rfl ⟨by omega, by omega⟩ (Nat.le_of_ble_eq_true rfl) h2 ?_
  rintro rv2 M2 ⟨rfl, I2⟩ n2
  exact y_ic_eq X.1 1316 dL_law_1184 (by decide) (fun _ => EQ.wid (Nat.le_add_right _ _) (Nat.le_add_right _ _) (k g M2 X I2 (n2.trans (n1.trans hn)))) (fun z => absurd rfl z)
theorem lc_33 (X : XL g p s m meth c b L xs) (I : Inv M) (hn : mn M = 173) (hi : i + 7 ≤ L) (hf : ce + 1 ≤ room_1.cells ∧ sl + 6 ≤ room_1.slots) (k : ∀ g2 M2, XL g2 p s m meth c b L xs → Inv M2 → mn M2 = 173 → EL g2 p e s m below meth c b Q (ce + 1) (sl + 6) 1316 (LV i) [] M2) : EL g p e s m below meth c b Q ce sl 1189 (LV i) [] M := by
  refine y_aload_n X.1 dL_law_1189 0 rfl ?_
  refine s_ldc 1 X dL_law_1190 dL_law_1191 dL_law_1193 dL_law_1194 dL_law_1195 (by decide) 3 rfl (by omega) ?_
  refine s_ldc 2 X dL_law_1196 dL_law_1197 dL_law_1199 dL_law_1200 dL_law_1201 (by decide) 3 rfl (by omega) ?_
  refine s_ldc 3 X dL_law_1202 dL_law_1203 dL_law_1205 dL_law_1206 dL_law_1207 (by decide) 3 rfl (by omega) ?_
  have h0 : Pr g YX11_tours YX12_tours 60 [.int (xs (i + 1)), .int (xs (i + 2)), .int (xs (i + 3))] M := p_tours I
  refine l_call (As := [.int (xs (i + 1)), .int (xs (i + 2)), .int (xs (i + 3))]) (st := []) X YX11_tours cvL_168 dL_law_1208 rfl rfl I.o0 rfl ⟨by omega, by omega⟩ (Nat.le_of_ble_eq_true rfl) h0 ?_
  rintro rv M1 ⟨v, rfl, o1, h2⟩ n1
  refine y_aload_n X.1 dL_law_1211 1 rfl ?_
  refine s_ldc 1 X dL_law_1212 dL_law_1213 dL_law_1215 dL_law_1216 dL_law_1217 (by decide) 3 rfl (by omega) ?_
  refine s_ldc 2 X dL_law_1218 dL_law_1219 dL_law_1221 dL_law_1222 dL_law_1223 (by decide) 3 rfl (by omega) ?_
  refine s_ldc 3 X dL_law_1224 dL_law_1225 dL_law_1227 dL_law_1228 dL_law_1229 (by decide) 3 rfl (by omega) ?_
  refine l_call (As := [.int (xs (i + 1)), .int (xs (i + 2)), .int (xs (i + 3))]) (st := [.int v]) X YX12_tours cvL_172 dL_law_1230 rfl rfl o1 rfl ⟨by omega, by omega⟩ (Nat.le_of_ble_eq_true rfl) h2 ?_
  rintro rv2 M2 ⟨rfl, I2⟩ n2
  exact y_ic_eq X.1 1316 dL_law_1233 (by decide) (fun _ => EQ.wid (Nat.le_add_right _ _) (Nat.le_add_right _ _) (k g M2 X I2 (n2.trans (n1.trans hn)))) (fun z => absurd rfl z)
theorem lc_34 (X : XL g p s m meth c b L xs) (I : Inv M) (hn : mn M = 173) (hi : i + 7 ≤ L) (hf : ce + 1 ≤ room_1.cells ∧ sl + 6 ≤ room_1.slots) (k : ∀ g2 M2, XL g2 p s m meth c b L xs → Inv M2 → mn M2 = 173 → EL g2 p e s m below meth c b Q (ce + 1) (sl + 6) 1316 (LV i) [] M2) : EL g p e s m below meth c b Q ce sl 1238 (LV i) [] M := by
  refine y_aload_n X.1 dL_law_1238 0 rfl ?_
  refine s_ldc 1 X dL_law_1239 dL_law_1240 dL_law_1242 dL_law_1243 dL_law_1244 (by decide) 3 rfl (by omega) ?_
  refine s_ldc 2 X dL_law_1245 dL_law_1246 dL_law_1248 dL_law_1249 dL_law_1250 (by decide) 3 rfl (by omega) ?_
  refine s_b01 X dL_law_1251 dL_law_1254 dL_law_1255 dL_law_1258 ?_
  have h0 : Pr g YX11_mark YX12_mark 60 [.int (xs (i + 1)), .int (b2i (decide (xs (i + 2) ≠ 0)))] M := p_mark I
  refine l_call (As := [.int (xs (i + 1)), .int (b2i (decide (xs (i + 2) ≠ 0)))]) (st := []) X YX11_mark cvL_173 dL_law_1259 rfl rfl I.o0 rfl ⟨by omega, by omega⟩ (Nat.le_of_ble_eq_true rfl) h0 ?_
  rintro rv M1 ⟨v, rfl, o1, h2⟩ n1
  refine y_aload_n X.1 dL_law_1262 1 rfl ?_
  refine s_ldc 1 X dL_law_1263 dL_law_1264 dL_law_1266 dL_law_1267 dL_law_1268 (by decide) 3 rfl (by omega) ?_
  refine s_ldc 2 X dL_law_1269 dL_law_1270 dL_law_1272 dL_law_1273 dL_law_1274 (by decide) 3 rfl (by omega) ?_
  refine s_b01 X dL_law_1275 dL_law_1278 dL_law_1279 dL_law_1282 ?_
  refine l_call (As := [.int (xs (i + 1)), .int (b2i (decide (xs (i + 2) ≠ 0)))]) (st := [.int v]) X YX12_mark cvL_176 dL_law_1283 rfl rfl o1 rfl ⟨by omega, by omega⟩ (Nat.le_of_ble_eq_true rfl) h2 ?_
  rintro rv2 M2 ⟨rfl, I2⟩ n2
  exact y_ic_eq X.1 1316 dL_law_1286 (by decide) (fun _ => EQ.wid (Nat.le_add_right _ _) (Nat.le_add_right _ _) (k g M2 X I2 (n2.trans (n1.trans hn)))) (fun z => absurd rfl z)
theorem lc_35 (X : XL g p s m meth c b L xs) (I : Inv M) (hn : mn M = 173) (hi : i + 7 ≤ L) (hf : ce + 1 ≤ room_1.cells ∧ sl + 6 ≤ room_1.slots) (k : ∀ g2 M2, XL g2 p s m meth c b L xs → Inv M2 → mn M2 = 173 → EL g2 p e s m below meth c b Q (ce + 1) (sl + 6) 1316 (LV i) [] M2) : EL g p e s m below meth c b Q ce sl 1291 (LV i) [] M := by
  refine y_aload_n X.1 dL_law_1291 0 rfl ?_
  refine s_ldc 1 X dL_law_1292 dL_law_1293 dL_law_1295 dL_law_1296 dL_law_1297 (by decide) 3 rfl (by omega) ?_
  have h0 : Pr g YX11_count YX12_count 60 [.int (xs (i + 1))] M := p_count I
  refine l_call (As := [.int (xs (i + 1))]) (st := []) X YX11_count cvL_177 dL_law_1298 rfl rfl I.o0 rfl ⟨by omega, by omega⟩ (Nat.le_of_ble_eq_true rfl) h0 ?_
  rintro rv M1 ⟨v, rfl, o1, h2⟩ n1
  refine y_aload_n X.1 dL_law_1301 1 rfl ?_
  refine s_ldc 1 X dL_law_1302 dL_law_1303 dL_law_1305 dL_law_1306 dL_law_1307 (by decide) 3 rfl (by omega) ?_
  refine l_call (As := [.int (xs (i + 1))]) (st := [.int v]) X YX12_count cvL_180 dL_law_1308 rfl rfl o1 rfl ⟨by omega, by omega⟩ (Nat.le_of_ble_eq_true rfl) h2 ?_
  rintro rv2 M2 ⟨rfl, I2⟩ n2
  exact y_ic_eq X.1 1316 dL_law_1311 (by decide) (fun _ => EQ.wid (Nat.le_add_right _ _) (Nat.le_add_right _ _) (k g M2 X I2 (n2.trans (n1.trans hn)))) (fun z => absurd rfl z)
theorem l_switch (X : XL g p s m meth c b L xs) (I : Inv M) (hn : mn M = 173) (hi : i + 7 ≤ L) (hf : ce + 1 ≤ room_1.cells ∧ sl + 6 ≤ room_1.slots) (k : ∀ g2 M2, XL g2 p s m meth c b L xs → Inv M2 → mn M2 = 173 → EL g2 p e s m below meth c b Q (ce + 1) (sl + 6) 1316 (LV i) [] M2) : EL g p e s m below meth c b Q ce sl 33 (LV i) [] M := by
  have dflt : EL g p e s m below meth c b Q ce sl 1316 (LV i) [] M := EQ.wid (Nat.le_add_right _ _) (Nat.le_add_right _ _) (k g M X I hn)
  refine s_ld0 X dL_law_33 dL_law_34 dL_law_36 3 rfl (by omega) ?_
  refine y_bipush (v := 63) X.1 dL_law_37 (by decide) ?_
  refine y_iand X.1 dL_law_39 ?_
  generalize xs i &&& 63 = x
  by_cases h : x.toInt < 0 ∨ 35 < x.toInt
  · exact y_tabOut X.1 1316 dL_law_40 h (by decide) dflt
  obtain ⟨n, hx, h36⟩ : ∃ n : Nat, x.toInt = (n : Int) ∧ n < 36 := ⟨x.toInt.toNat, by omega, by omega⟩
  have h1 : ¬ x.toInt < 0 := fun q => h (.inl q)
  have h2 : ¬ 35 < x.toInt := fun q => h (.inr q)
  match n, h36, hx with
  | 0, _, hx => exact y_tabIn X.1 200 dL_law_40 h1 h2 (by rw [hx]; rfl) (by decide) (lc_0 X I hn hi hf k)
  | 1, _, hx => exact y_tabIn X.1 347 dL_law_40 h1 h2 (by rw [hx]; rfl) (by decide) (lc_1 X I hn hi hf k)
  | 2, _, hx => exact y_tabIn X.1 360 dL_law_40 h1 h2 (by rw [hx]; rfl) (by decide) (lc_2 X I hn hi hf k)
  | 3, _, hx => exact y_tabIn X.1 373 dL_law_40 h1 h2 (by rw [hx]; rfl) (by decide) (lc_3 X I hn hi hf k)
  | 4, _, hx => exact y_tabIn X.1 410 dL_law_40 h1 h2 (by rw [hx]; rfl) (by decide) (lc_4 X I hn hi hf k)
  | 5, _, hx => exact y_tabIn X.1 447 dL_law_40 h1 h2 (by rw [hx]; rfl) (by decide) (lc_5 X I hn hi hf k)
  | 6, _, hx => exact y_tabIn X.1 460 dL_law_40 h1 h2 (by rw [hx]; rfl) (by decide) (lc_6 X I hn hi hf k)
  | 7, _, hx => exact y_tabIn X.1 497 dL_law_40 h1 h2 (by rw [hx]; rfl) (by decide) (lc_7 X I hn hi hf k)
  | 8, _, hx => exact y_tabIn X.1 546 dL_law_40 h1 h2 (by rw [hx]; rfl) (by decide) (lc_8 X I hn hi hf k)
  | 9, _, hx => exact y_tabIn X.1 559 dL_law_40 h1 h2 (by rw [hx]; rfl) (by decide) (lc_9 X I hn hi hf k)
  | 10, _, hx => exact y_tabIn X.1 572 dL_law_40 h1 h2 (by rw [hx]; rfl) (by decide) (lc_10 X I hn hi hf k)
  | 11, _, hx => exact y_tabIn X.1 597 dL_law_40 h1 h2 (by rw [hx]; rfl) (by decide) (lc_11 X I hn hi hf k)
  | 12, _, hx => exact y_tabIn X.1 634 dL_law_40 h1 h2 (by rw [hx]; rfl) (by decide) (lc_12 X I hn hi hf k)
  | 13, _, hx => exact y_tabIn X.1 659 dL_law_40 h1 h2 (by rw [hx]; rfl) (by decide) (lc_13 X I hn hi hf k)
  | 14, _, hx => exact y_tabIn X.1 672 dL_law_40 h1 h2 (by rw [hx]; rfl) (by decide) (lc_14 X I hn hi hf k)
  | 15, _, hx => exact y_tabIn X.1 685 dL_law_40 h1 h2 (by rw [hx]; rfl) (by decide) (lc_15 X I hn hi hf k)
  | 16, _, hx => exact y_tabIn X.1 698 dL_law_40 h1 h2 (by rw [hx]; rfl) (by decide) (lc_16 X I hn hi hf k)
  | 17, _, hx => exact y_tabIn X.1 723 dL_law_40 h1 h2 (by rw [hx]; rfl) (by decide) (lc_17 X I hn hi hf k)
  | 18, _, hx => exact y_tabIn X.1 779 dL_law_40 h1 h2 (by rw [hx]; rfl) (by decide) (lc_18 X I hn hi hf k)
  | 19, _, hx => exact y_tabIn X.1 804 dL_law_40 h1 h2 (by rw [hx]; rfl) (by decide) (lc_19 X I hn hi hf k)
  | 20, _, hx => exact y_tabIn X.1 829 dL_law_40 h1 h2 (by rw [hx]; rfl) (by decide) (lc_20 X I hn hi hf k)
  | 21, _, hx => exact y_tabIn X.1 842 dL_law_40 h1 h2 (by rw [hx]; rfl) (by decide) (lc_21 X I hn hi hf k)
  | 22, _, hx => exact y_tabIn X.1 867 dL_law_40 h1 h2 (by rw [hx]; rfl) (by decide) (lc_22 X I hn hi hf k)
  | 23, _, hx => exact y_tabIn X.1 880 dL_law_40 h1 h2 (by rw [hx]; rfl) (by decide) (lc_23 X I hn hi hf k)
  | 24, _, hx => exact y_tabIn X.1 905 dL_law_40 h1 h2 (by rw [hx]; rfl) (by decide) (lc_24 X I hn hi hf k)
  | 25, _, hx => exact y_tabIn X.1 918 dL_law_40 h1 h2 (by rw [hx]; rfl) (by decide) (lc_25 X I hn hi hf k)
  | 26, _, hx => exact y_tabIn X.1 943 dL_law_40 h1 h2 (by rw [hx]; rfl) (by decide) (lc_26 X I hn hi hf k)
  | 27, _, hx => exact y_tabIn X.1 980 dL_law_40 h1 h2 (by rw [hx]; rfl) (by decide) (lc_27 X I hn hi hf k)
  | 28, _, hx => exact y_tabIn X.1 993 dL_law_40 h1 h2 (by rw [hx]; rfl) (by decide) (lc_28 X I hn hi hf k)
  | 29, _, hx => exact y_tabIn X.1 1046 dL_law_40 h1 h2 (by rw [hx]; rfl) (by decide) (lc_29 X I hn hi hf k)
  | 30, _, hx => exact y_tabIn X.1 1059 dL_law_40 h1 h2 (by rw [hx]; rfl) (by decide) (lc_30 X I hn hi hf k)
  | 31, _, hx => exact y_tabIn X.1 1072 dL_law_40 h1 h2 (by rw [hx]; rfl) (by decide) (lc_31 X I hn hi hf k)
  | 32, _, hx => exact y_tabIn X.1 1164 dL_law_40 h1 h2 (by rw [hx]; rfl) (by decide) (lc_32 X I hn hi hf k)
  | 33, _, hx => exact y_tabIn X.1 1189 dL_law_40 h1 h2 (by rw [hx]; rfl) (by decide) (lc_33 X I hn hi hf k)
  | 34, _, hx => exact y_tabIn X.1 1238 dL_law_40 h1 h2 (by rw [hx]; rfl) (by decide) (lc_34 X I hn hi hf k)
  | 35, _, hx => exact y_tabIn X.1 1291 dL_law_40 h1 h2 (by rw [hx]; rfl) (by decide) (lc_35 X I hn hi hf k)
  | n + 36, h9, _ => exact absurd h9 (by omega)
end LCS
