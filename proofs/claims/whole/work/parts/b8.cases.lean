/-! the cases of the law: the class's call, the model's, and their answers are the same -/
section LCASE
variable {S : ShT} {σ : StT} {rc rs L : Nat} {Q : Int → ShT → StT → Prop} {M : Ms} {i : Int} {xs : Nat → Int}
theorem lc_feed (hS : SHP S) (hb : S.1 + 1 < BIG) (hk : S.2.1 BIG = (7, L)) (hL : L ≤ 2147483647) (h0 : 0 ≤ i) (h1 : i + 6 ≤ L) (hx : ∀ j, σ BIG j = xs j) (hc : cT σ M) (hm : mT σ M) (nx : NX S σ i rc rs Q) : AW mL_law 208 (lL i) [] S σ (1 + rc) (152 + rs) Q := by
  refine r_aload_n dL_law_208 rfl ?_
  refine a_arg (ls := lL i) (kc := 1) dL_law_209 dL_law_210 dL_law_212 dL_law_213 dL_law_214 rfl rfl hk hL h0 h1 hx (by decide) ?_
  refine a_arg (ls := lL i) (kc := 2) dL_law_215 dL_law_216 dL_law_218 dL_law_219 dL_law_220 rfl rfl hk hL h0 h1 hx (by decide) ?_
  refine a_arg (ls := lL i) (kc := 3) dL_law_221 dL_law_222 dL_law_224 dL_law_225 dL_law_226 rfl rfl hk hL h0 h1 hx (by decide) ?_
  refine a_arg (ls := lL i) (kc := 4) dL_law_227 dL_law_228 dL_law_230 dL_law_231 dL_law_232 rfl rfl hk hL h0 h1 hx (by decide) ?_
  refine a_arg (ls := lL i) (kc := 5) dL_law_233 dL_law_234 dL_law_236 dL_law_237 dL_law_238 rfl rfl hk hL h0 h1 hx (by decide) ?_
  refine g_callVv (z := mX10_feed) [vI (xs (i + 1).toNat), vI (xs (i + 2).toNat), vI (xs (i + 3).toNat), vI (xs (i + 4).toNat), vI (xs (i + 5).toNat)] dL_law_239 mv_X10_feed lk_L_19 rfl (by decide) (k_1 hS) (Nat.le_of_ble_eq_true rfl) (c_feed hS σ _ hc (fun σ1 hc1 f1 => ?_))
  have hx1 := fun j => (f1 BIG (by unfold BIG; omega) j).trans (hx j)
  have hm1 := fr_m hm f1
  refine r_aload_n dL_law_242 rfl ?_
  refine a_arg (ls := lL i) (kc := 1) dL_law_243 dL_law_244 dL_law_246 dL_law_247 dL_law_248 rfl rfl hk hL h0 h1 hx1 (by decide) ?_
  refine a_arg (ls := lL i) (kc := 2) dL_law_249 dL_law_250 dL_law_252 dL_law_253 dL_law_254 rfl rfl hk hL h0 h1 hx1 (by decide) ?_
  refine a_arg (ls := lL i) (kc := 3) dL_law_255 dL_law_256 dL_law_258 dL_law_259 dL_law_260 rfl rfl hk hL h0 h1 hx1 (by decide) ?_
  refine a_arg (ls := lL i) (kc := 4) dL_law_261 dL_law_262 dL_law_264 dL_law_265 dL_law_266 rfl rfl hk hL h0 h1 hx1 (by decide) ?_
  refine a_arg (ls := lL i) (kc := 5) dL_law_267 dL_law_268 dL_law_270 dL_law_271 dL_law_272 rfl rfl hk hL h0 h1 hx1 (by decide) ?_
  refine g_callVv (z := mX11_feed) [vI (xs (i + 1).toNat), vI (xs (i + 2).toNat), vI (xs (i + 3).toNat), vI (xs (i + 4).toNat), vI (xs (i + 5).toNat)] dL_law_273 mv_X11_feed lk_L_23 rfl (by decide) (k_125 hS) (Nat.le_of_ble_eq_true rfl) (q_feed hS σ1 _ hc.1 hm1 (fun σ2 hm2 f2 => ?_))
  refine r_icmp_eq (tgt := 1285) dL_law_276 rfl (fun _ => ?_) (fun c => absurd rfl c)
  exact AW_rc (nx S σ2 _ (xS.rf hS) (fr_c hc1 f2) hm2 (fun b hb j => (f2 b (by unfold BIG at hb; omega) j).trans (f1 b (by unfold BIG at hb; omega) j))) (by omega) (by omega)
theorem lc_sheet (hS : SHP S) (hb : S.1 + 1 < BIG) (hk : S.2.1 BIG = (7, L)) (hL : L ≤ 2147483647) (h0 : 0 ≤ i) (h1 : i + 6 ≤ L) (hx : ∀ j, σ BIG j = xs j) (hc : cT σ M) (hm : mT σ M) (nx : NX S σ i rc rs Q) : AW mL_law 281 (lL i) [] S σ (1 + rc) (152 + rs) Q := by
  refine r_aload_n dL_law_281 rfl ?_
  refine a_arg (ls := lL i) (kc := 1) dL_law_282 dL_law_283 dL_law_285 dL_law_286 dL_law_287 rfl rfl hk hL h0 h1 hx (by decide) ?_
  refine g_callVv (z := mX10_sheet) [vI (xs (i + 1).toNat)] dL_law_288 mv_X10_sheet lk_L_24 rfl (by decide) (k_1 hS) (Nat.le_of_ble_eq_true rfl) (c_sheet hS σ _ hc (fun σ1 hc1 f1 => ?_))
  have hx1 := fun j => (f1 BIG (by unfold BIG; omega) j).trans (hx j)
  have hm1 := fr_m hm f1
  refine r_aload_n dL_law_291 rfl ?_
  refine a_arg (ls := lL i) (kc := 1) dL_law_292 dL_law_293 dL_law_295 dL_law_296 dL_law_297 rfl rfl hk hL h0 h1 hx1 (by decide) ?_
  refine g_callVv (z := mX11_sheet) [vI (xs (i + 1).toNat)] dL_law_298 mv_X11_sheet lk_L_27 rfl (by decide) (k_125 hS) (Nat.le_of_ble_eq_true rfl) (q_sheet hS σ1 _ hc.1 hm1 (fun σ2 hm2 f2 => ?_))
  refine r_icmp_eq (tgt := 1285) dL_law_301 rfl (fun _ => ?_) (fun c => absurd rfl c)
  exact AW_rc (nx S σ2 _ (xS.rf hS) (fr_c hc1 f2) hm2 (fun b hb j => (f2 b (by unfold BIG at hb; omega) j).trans (f1 b (by unfold BIG at hb; omega) j))) (by omega) (by omega)
theorem lc_fault (hS : SHP S) (hb : S.1 + 1 < BIG) (hk : S.2.1 BIG = (7, L)) (hL : L ≤ 2147483647) (h0 : 0 ≤ i) (h1 : i + 6 ≤ L) (hx : ∀ j, σ BIG j = xs j) (hc : cT σ M) (hm : mT σ M) (nx : NX S σ i rc rs Q) : AW mL_law 306 (lL i) [] S σ (1 + rc) (152 + rs) Q := by
  refine r_aload_n dL_law_306 rfl ?_
  refine g_callVv (z := mX10_fault) [] dL_law_307 mv_X10_fault lk_L_28 rfl (by decide) (k_1 hS) (Nat.le_of_ble_eq_true rfl) (c_fault hS σ _ hc (fun σ1 hc1 f1 => ?_))
  have hx1 := fun j => (f1 BIG (by unfold BIG; omega) j).trans (hx j)
  have hm1 := fr_m hm f1
  refine r_aload_n dL_law_310 rfl ?_
  refine g_callVv (z := mX11_fault) [] dL_law_311 mv_X11_fault lk_L_32 rfl (by decide) (k_125 hS) (Nat.le_of_ble_eq_true rfl) (q_fault hS σ1 _ hc.1 hm1 (fun σ2 hm2 f2 => ?_))
  refine r_icmp_eq (tgt := 1285) dL_law_314 rfl (fun _ => ?_) (fun c => absurd rfl c)
  exact AW_rc (nx S σ2 _ (xS.rf hS) (fr_c hc1 f2) hm2 (fun b hb j => (f2 b (by unfold BIG at hb; omega) j).trans (f1 b (by unfold BIG at hb; omega) j))) (by omega) (by omega)
theorem lc_where (hS : SHP S) (hb : S.1 + 1 < BIG) (hk : S.2.1 BIG = (7, L)) (hL : L ≤ 2147483647) (h0 : 0 ≤ i) (h1 : i + 6 ≤ L) (hx : ∀ j, σ BIG j = xs j) (hc : cT σ M) (hm : mT σ M) (nx : NX S σ i rc rs Q) : AW mL_law 319 (lL i) [] S σ (1 + rc) (152 + rs) Q := by
  refine r_aload_n dL_law_319 rfl ?_
  refine g_callVv (z := mX10_where) [] dL_law_320 mv_X10_where lk_L_33 rfl (by decide) (k_1 hS) (Nat.le_of_ble_eq_true rfl) (c_where hS σ _ hc (fun σ1 hc1 f1 => ?_))
  have hx1 := fun j => (f1 BIG (by unfold BIG; omega) j).trans (hx j)
  have hm1 := fr_m hm f1
  refine r_aload_n dL_law_323 rfl ?_
  refine g_callVv (z := mX11_where) [] dL_law_324 mv_X11_where lk_L_36 rfl (by decide) (k_125 hS) (Nat.le_of_ble_eq_true rfl) (q_where hS σ1 _ hc.1 hm1 (fun σ2 hm2 f2 => ?_))
  refine r_icmp_eq (tgt := 1285) dL_law_327 rfl (fun _ => ?_) (fun c => absurd rfl c)
  exact AW_rc (nx S σ2 _ (xS.rf hS) (fr_c hc1 f2) hm2 (fun b hb j => (f2 b (by unfold BIG at hb; omega) j).trans (f1 b (by unfold BIG at hb; omega) j))) (by omega) (by omega)
theorem lc_about (hS : SHP S) (hb : S.1 + 1 < BIG) (hk : S.2.1 BIG = (7, L)) (hL : L ≤ 2147483647) (h0 : 0 ≤ i) (h1 : i + 6 ≤ L) (hx : ∀ j, σ BIG j = xs j) (hc : cT σ M) (hm : mT σ M) (nx : NX S σ i rc rs Q) : AW mL_law 332 (lL i) [] S σ (1 + rc) (152 + rs) Q := by
  refine r_aload_n dL_law_332 rfl ?_
  refine a_arg (ls := lL i) (kc := 1) dL_law_333 dL_law_334 dL_law_336 dL_law_337 dL_law_338 rfl rfl hk hL h0 h1 hx (by decide) ?_
  refine g_callVv (z := mX10_about) [vI (xs (i + 1).toNat)] dL_law_339 mv_X10_about lk_L_37 rfl (by decide) (k_1 hS) (Nat.le_of_ble_eq_true rfl) (c_about hS σ _ hc (fun σ1 hc1 f1 => ?_))
  have hx1 := fun j => (f1 BIG (by unfold BIG; omega) j).trans (hx j)
  have hm1 := fr_m hm f1
  refine r_aload_n dL_law_342 rfl ?_
  refine a_arg (ls := lL i) (kc := 1) dL_law_343 dL_law_344 dL_law_346 dL_law_347 dL_law_348 rfl rfl hk hL h0 h1 hx1 (by decide) ?_
  refine g_callVv (z := mX11_about) [vI (xs (i + 1).toNat)] dL_law_349 mv_X11_about lk_L_40 rfl (by decide) (k_125 hS) (Nat.le_of_ble_eq_true rfl) (q_about hS σ1 _ hc.1 hm1 (fun σ2 hm2 f2 => ?_))
  refine r_icmp_eq (tgt := 1285) dL_law_352 rfl (fun _ => ?_) (fun c => absurd rfl c)
  exact AW_rc (nx S σ2 _ (xS.rf hS) (fr_c hc1 f2) hm2 (fun b hb j => (f2 b (by unfold BIG at hb; omega) j).trans (f1 b (by unfold BIG at hb; omega) j))) (by omega) (by omega)
theorem lc_stroke (hS : SHP S) (hb : S.1 + 1 < BIG) (hk : S.2.1 BIG = (7, L)) (hL : L ≤ 2147483647) (h0 : 0 ≤ i) (h1 : i + 6 ≤ L) (hx : ∀ j, σ BIG j = xs j) (hc : cT σ M) (hm : mT σ M) (nx : NX S σ i rc rs Q) : AW mL_law 357 (lL i) [] S σ (1 + rc) (152 + rs) Q := by
  refine r_aload_n dL_law_357 rfl ?_
  refine a_arg (ls := lL i) (kc := 1) dL_law_358 dL_law_359 dL_law_361 dL_law_362 dL_law_363 rfl rfl hk hL h0 h1 hx (by decide) ?_
  refine a_arg (ls := lL i) (kc := 2) dL_law_364 dL_law_365 dL_law_367 dL_law_368 dL_law_369 rfl rfl hk hL h0 h1 hx (by decide) ?_
  refine g_callVv (z := mX10_stroke) [vI (xs (i + 1).toNat), vI (xs (i + 2).toNat)] dL_law_370 mv_X10_stroke lk_L_41 rfl (by decide) (k_1 hS) (Nat.le_of_ble_eq_true rfl) (c_stroke hS σ _ hc (fun σ1 hc1 f1 => ?_))
  have hx1 := fun j => (f1 BIG (by unfold BIG; omega) j).trans (hx j)
  have hm1 := fr_m hm f1
  refine r_aload_n dL_law_373 rfl ?_
  refine a_arg (ls := lL i) (kc := 1) dL_law_374 dL_law_375 dL_law_377 dL_law_378 dL_law_379 rfl rfl hk hL h0 h1 hx1 (by decide) ?_
  refine a_arg (ls := lL i) (kc := 2) dL_law_380 dL_law_381 dL_law_383 dL_law_384 dL_law_385 rfl rfl hk hL h0 h1 hx1 (by decide) ?_
  refine g_callVv (z := mX11_stroke) [vI (xs (i + 1).toNat), vI (xs (i + 2).toNat)] dL_law_386 mv_X11_stroke lk_L_45 rfl (by decide) (k_125 hS) (Nat.le_of_ble_eq_true rfl) (q_stroke hS σ1 _ hc.1 hm1 (fun σ2 hm2 f2 => ?_))
  refine r_icmp_eq (tgt := 1285) dL_law_389 rfl (fun _ => ?_) (fun c => absurd rfl c)
  exact AW_rc (nx S σ2 _ (xS.rf hS) (fr_c hc1 f2) hm2 (fun b hb j => (f2 b (by unfold BIG at hb; omega) j).trans (f1 b (by unfold BIG at hb; omega) j))) (by omega) (by omega)
theorem lc_meeting (hS : SHP S) (hb : S.1 + 1 < BIG) (hk : S.2.1 BIG = (7, L)) (hL : L ≤ 2147483647) (h0 : 0 ≤ i) (h1 : i + 6 ≤ L) (hx : ∀ j, σ BIG j = xs j) (hc : cT σ M) (hm : mT σ M) (nx : NX S σ i rc rs Q) : AW mL_law 394 (lL i) [] S σ (1 + rc) (152 + rs) Q := by
  refine r_aload_n dL_law_394 rfl ?_
  refine a_arg (ls := lL i) (kc := 1) dL_law_395 dL_law_396 dL_law_398 dL_law_399 dL_law_400 rfl rfl hk hL h0 h1 hx (by decide) ?_
  refine a_arg (ls := lL i) (kc := 2) dL_law_401 dL_law_402 dL_law_404 dL_law_405 dL_law_406 rfl rfl hk hL h0 h1 hx (by decide) ?_
  refine g_callVv (z := mX10_meeting) [vI (xs (i + 1).toNat), vI (xs (i + 2).toNat)] dL_law_407 mv_X10_meeting lk_L_46 rfl (by decide) (k_1 hS) (Nat.le_of_ble_eq_true rfl) (c_meeting hS σ _ hc (fun σ1 hc1 f1 => ?_))
  have hx1 := fun j => (f1 BIG (by unfold BIG; omega) j).trans (hx j)
  have hm1 := fr_m hm f1
  refine r_aload_n dL_law_410 rfl ?_
  refine a_arg (ls := lL i) (kc := 1) dL_law_411 dL_law_412 dL_law_414 dL_law_415 dL_law_416 rfl rfl hk hL h0 h1 hx1 (by decide) ?_
  refine a_arg (ls := lL i) (kc := 2) dL_law_417 dL_law_418 dL_law_420 dL_law_421 dL_law_422 rfl rfl hk hL h0 h1 hx1 (by decide) ?_
  refine g_callVv (z := mX11_meeting) [vI (xs (i + 1).toNat), vI (xs (i + 2).toNat)] dL_law_423 mv_X11_meeting lk_L_49 rfl (by decide) (k_125 hS) (Nat.le_of_ble_eq_true rfl) (q_meeting hS σ1 _ hc.1 hm1 (fun σ2 hm2 f2 => ?_))
  refine r_icmp_eq (tgt := 1285) dL_law_426 rfl (fun _ => ?_) (fun c => absurd rfl c)
  exact AW_rc (nx S σ2 _ (xS.rf hS) (fr_c hc1 f2) hm2 (fun b hb j => (f2 b (by unfold BIG at hb; omega) j).trans (f1 b (by unfold BIG at hb; omega) j))) (by omega) (by omega)
theorem lc_part (hS : SHP S) (hb : S.1 + 1 < BIG) (hk : S.2.1 BIG = (7, L)) (hL : L ≤ 2147483647) (h0 : 0 ≤ i) (h1 : i + 6 ≤ L) (hx : ∀ j, σ BIG j = xs j) (hc : cT σ M) (hm : mT σ M) (nx : NX S σ i rc rs Q) : AW mL_law 431 (lL i) [] S σ (1 + rc) (152 + rs) Q := by
  refine r_aload_n dL_law_431 rfl ?_
  refine a_arg (ls := lL i) (kc := 1) dL_law_432 dL_law_433 dL_law_435 dL_law_436 dL_law_437 rfl rfl hk hL h0 h1 hx (by decide) ?_
  refine a_arg (ls := lL i) (kc := 2) dL_law_438 dL_law_439 dL_law_441 dL_law_442 dL_law_443 rfl rfl hk hL h0 h1 hx (by decide) ?_
  refine g_callVv (z := mX10_part) [vI (xs (i + 1).toNat), vI (xs (i + 2).toNat)] dL_law_444 mv_X10_part lk_L_50 rfl (by decide) (k_1 hS) (Nat.le_of_ble_eq_true rfl) (c_part hS σ _ hc (fun σ1 hc1 f1 => ?_))
  have hx1 := fun j => (f1 BIG (by unfold BIG; omega) j).trans (hx j)
  have hm1 := fr_m hm f1
  refine r_aload_n dL_law_447 rfl ?_
  refine a_arg (ls := lL i) (kc := 1) dL_law_448 dL_law_449 dL_law_451 dL_law_452 dL_law_453 rfl rfl hk hL h0 h1 hx1 (by decide) ?_
  refine a_arg (ls := lL i) (kc := 2) dL_law_454 dL_law_455 dL_law_457 dL_law_458 dL_law_459 rfl rfl hk hL h0 h1 hx1 (by decide) ?_
  refine g_callVv (z := mX11_part) [vI (xs (i + 1).toNat), vI (xs (i + 2).toNat)] dL_law_460 mv_X11_part lk_L_53 rfl (by decide) (k_125 hS) (Nat.le_of_ble_eq_true rfl) (q_part hS σ1 _ hc.1 hm1 (fun σ2 hm2 f2 => ?_))
  refine r_icmp_eq (tgt := 1285) dL_law_463 rfl (fun _ => ?_) (fun c => absurd rfl c)
  exact AW_rc (nx S σ2 _ (xS.rf hS) (fr_c hc1 f2) hm2 (fun b hb j => (f2 b (by unfold BIG at hb; omega) j).trans (f1 b (by unfold BIG at hb; omega) j))) (by omega) (by omega)
theorem lc_pair (hS : SHP S) (hb : S.1 + 1 < BIG) (hk : S.2.1 BIG = (7, L)) (hL : L ≤ 2147483647) (h0 : 0 ≤ i) (h1 : i + 6 ≤ L) (hx : ∀ j, σ BIG j = xs j) (hc : cT σ M) (hm : mT σ M) (nx : NX S σ i rc rs Q) : AW mL_law 468 (lL i) [] S σ (1 + rc) (152 + rs) Q := by
  refine r_aload_n dL_law_468 rfl ?_
  refine a_arg (ls := lL i) (kc := 1) dL_law_469 dL_law_470 dL_law_472 dL_law_473 dL_law_474 rfl rfl hk hL h0 h1 hx (by decide) ?_
  refine a_arg (ls := lL i) (kc := 2) dL_law_475 dL_law_476 dL_law_478 dL_law_479 dL_law_480 rfl rfl hk hL h0 h1 hx (by decide) ?_
  refine g_callVv (z := mX10_pair) [vI (xs (i + 1).toNat), vI (xs (i + 2).toNat)] dL_law_481 mv_X10_pair lk_L_54 rfl (by decide) (k_1 hS) (Nat.le_of_ble_eq_true rfl) (c_pair hS σ _ hc (fun σ1 hc1 f1 => ?_))
  have hx1 := fun j => (f1 BIG (by unfold BIG; omega) j).trans (hx j)
  have hm1 := fr_m hm f1
  refine r_aload_n dL_law_484 rfl ?_
  refine a_arg (ls := lL i) (kc := 1) dL_law_485 dL_law_486 dL_law_488 dL_law_489 dL_law_490 rfl rfl hk hL h0 h1 hx1 (by decide) ?_
  refine a_arg (ls := lL i) (kc := 2) dL_law_491 dL_law_492 dL_law_494 dL_law_495 dL_law_496 rfl rfl hk hL h0 h1 hx1 (by decide) ?_
  refine g_callVv (z := mX11_pair) [vI (xs (i + 1).toNat), vI (xs (i + 2).toNat)] dL_law_497 mv_X11_pair lk_L_57 rfl (by decide) (k_125 hS) (Nat.le_of_ble_eq_true rfl) (q_pair hS σ1 _ hc.1 hm1 (fun σ2 hm2 f2 => ?_))
  refine r_icmp_eq (tgt := 1285) dL_law_500 rfl (fun _ => ?_) (fun c => absurd rfl c)
  exact AW_rc (nx S σ2 _ (xS.rf hS) (fr_c hc1 f2) hm2 (fun b hb j => (f2 b (by unfold BIG at hb; omega) j).trans (f1 b (by unfold BIG at hb; omega) j))) (by omega) (by omega)
theorem lc_walk (hS : SHP S) (hb : S.1 + 1 < BIG) (hk : S.2.1 BIG = (7, L)) (hL : L ≤ 2147483647) (h0 : 0 ≤ i) (h1 : i + 6 ≤ L) (hx : ∀ j, σ BIG j = xs j) (hc : cT σ M) (hm : mT σ M) (nx : NX S σ i rc rs Q) : AW mL_law 505 (lL i) [] S σ (1 + rc) (152 + rs) Q := by
  refine r_aload_n dL_law_505 rfl ?_
  refine a_arg (ls := lL i) (kc := 1) dL_law_506 dL_law_507 dL_law_509 dL_law_510 dL_law_511 rfl rfl hk hL h0 h1 hx (by decide) ?_
  refine a_arg (ls := lL i) (kc := 2) dL_law_512 dL_law_513 dL_law_515 dL_law_516 dL_law_517 rfl rfl hk hL h0 h1 hx (by decide) ?_
  refine g_callVv (z := mX10_walk) [vI (xs (i + 1).toNat), vI (xs (i + 2).toNat)] dL_law_518 mv_X10_walk lk_L_58 rfl (by decide) (k_1 hS) (Nat.le_of_ble_eq_true rfl) (c_walk hS σ _ hc (fun σ1 hc1 f1 => ?_))
  have hx1 := fun j => (f1 BIG (by unfold BIG; omega) j).trans (hx j)
  have hm1 := fr_m hm f1
  refine r_aload_n dL_law_521 rfl ?_
  refine a_arg (ls := lL i) (kc := 1) dL_law_522 dL_law_523 dL_law_525 dL_law_526 dL_law_527 rfl rfl hk hL h0 h1 hx1 (by decide) ?_
  refine a_arg (ls := lL i) (kc := 2) dL_law_528 dL_law_529 dL_law_531 dL_law_532 dL_law_533 rfl rfl hk hL h0 h1 hx1 (by decide) ?_
  refine g_callVv (z := mX11_walk) [vI (xs (i + 1).toNat), vI (xs (i + 2).toNat)] dL_law_534 mv_X11_walk lk_L_61 rfl (by decide) (k_125 hS) (Nat.le_of_ble_eq_true rfl) (q_walk hS σ1 _ hc.1 hm1 (fun σ2 hm2 f2 => ?_))
  refine r_icmp_eq (tgt := 1285) dL_law_537 rfl (fun _ => ?_) (fun c => absurd rfl c)
  exact AW_rc (nx S σ2 _ (xS.rf hS) (fr_c hc1 f2) hm2 (fun b hb j => (f2 b (by unfold BIG at hb; omega) j).trans (f1 b (by unfold BIG at hb; omega) j))) (by omega) (by omega)
theorem lc_trail (hS : SHP S) (hb : S.1 + 1 < BIG) (hk : S.2.1 BIG = (7, L)) (hL : L ≤ 2147483647) (h0 : 0 ≤ i) (h1 : i + 6 ≤ L) (hx : ∀ j, σ BIG j = xs j) (hc : cT σ M) (hm : mT σ M) (nx : NX S σ i rc rs Q) : AW mL_law 542 (lL i) [] S σ (1 + rc) (152 + rs) Q := by
  refine r_aload_n dL_law_542 rfl ?_
  refine a_arg (ls := lL i) (kc := 1) dL_law_543 dL_law_544 dL_law_546 dL_law_547 dL_law_548 rfl rfl hk hL h0 h1 hx (by decide) ?_
  refine a_arg (ls := lL i) (kc := 2) dL_law_549 dL_law_550 dL_law_552 dL_law_553 dL_law_554 rfl rfl hk hL h0 h1 hx (by decide) ?_
  refine g_callVv (z := mX10_trail) [vI (xs (i + 1).toNat), vI (xs (i + 2).toNat)] dL_law_555 mv_X10_trail lk_L_62 rfl (by decide) (k_1 hS) (Nat.le_of_ble_eq_true rfl) (c_trail hS σ _ hc (fun σ1 hc1 f1 => ?_))
  have hx1 := fun j => (f1 BIG (by unfold BIG; omega) j).trans (hx j)
  have hm1 := fr_m hm f1
  refine r_aload_n dL_law_558 rfl ?_
  refine a_arg (ls := lL i) (kc := 1) dL_law_559 dL_law_560 dL_law_562 dL_law_563 dL_law_564 rfl rfl hk hL h0 h1 hx1 (by decide) ?_
  refine a_arg (ls := lL i) (kc := 2) dL_law_565 dL_law_566 dL_law_568 dL_law_569 dL_law_570 rfl rfl hk hL h0 h1 hx1 (by decide) ?_
  refine g_callVv (z := mX11_trail) [vI (xs (i + 1).toNat), vI (xs (i + 2).toNat)] dL_law_571 mv_X11_trail lk_L_65 rfl (by decide) (k_125 hS) (Nat.le_of_ble_eq_true rfl) (q_trail hS σ1 _ hc.1 hm1 (fun σ2 hm2 f2 => ?_))
  refine r_icmp_eq (tgt := 1285) dL_law_574 rfl (fun _ => ?_) (fun c => absurd rfl c)
  exact AW_rc (nx S σ2 _ (xS.rf hS) (fr_c hc1 f2) hm2 (fun b hb j => (f2 b (by unfold BIG at hb; omega) j).trans (f1 b (by unfold BIG at hb; omega) j))) (by omega) (by omega)
theorem lc_ride (hS : SHP S) (hb : S.1 + 1 < BIG) (hk : S.2.1 BIG = (7, L)) (hL : L ≤ 2147483647) (h0 : 0 ≤ i) (h1 : i + 6 ≤ L) (hx : ∀ j, σ BIG j = xs j) (hc : cT σ M) (hm : mT σ M) (nx : NX S σ i rc rs Q) : AW mL_law 579 (lL i) [] S σ (1 + rc) (152 + rs) Q := by
  refine r_aload_n dL_law_579 rfl ?_
  refine a_arg (ls := lL i) (kc := 1) dL_law_580 dL_law_581 dL_law_583 dL_law_584 dL_law_585 rfl rfl hk hL h0 h1 hx (by decide) ?_
  refine a_arg (ls := lL i) (kc := 2) dL_law_586 dL_law_587 dL_law_589 dL_law_590 dL_law_591 rfl rfl hk hL h0 h1 hx (by decide) ?_
  refine g_callVv (z := mX10_ride) [vI (xs (i + 1).toNat), vI (xs (i + 2).toNat)] dL_law_592 mv_X10_ride lk_L_66 rfl (by decide) (k_1 hS) (Nat.le_of_ble_eq_true rfl) (c_ride hS σ _ hc (fun σ1 hc1 f1 => ?_))
  have hx1 := fun j => (f1 BIG (by unfold BIG; omega) j).trans (hx j)
  have hm1 := fr_m hm f1
  refine r_aload_n dL_law_595 rfl ?_
  refine a_arg (ls := lL i) (kc := 1) dL_law_596 dL_law_597 dL_law_599 dL_law_600 dL_law_601 rfl rfl hk hL h0 h1 hx1 (by decide) ?_
  refine a_arg (ls := lL i) (kc := 2) dL_law_602 dL_law_603 dL_law_605 dL_law_606 dL_law_607 rfl rfl hk hL h0 h1 hx1 (by decide) ?_
  refine g_callVv (z := mX11_ride) [vI (xs (i + 1).toNat), vI (xs (i + 2).toNat)] dL_law_608 mv_X11_ride lk_L_69 rfl (by decide) (k_125 hS) (Nat.le_of_ble_eq_true rfl) (q_ride hS σ1 _ hc.1 hm1 (fun σ2 hm2 f2 => ?_))
  refine r_icmp_eq (tgt := 1285) dL_law_611 rfl (fun _ => ?_) (fun c => absurd rfl c)
  exact AW_rc (nx S σ2 _ (xS.rf hS) (fr_c hc1 f2) hm2 (fun b hb j => (f2 b (by unfold BIG at hb; omega) j).trans (f1 b (by unfold BIG at hb; omega) j))) (by omega) (by omega)
theorem lc_travel (hS : SHP S) (hb : S.1 + 1 < BIG) (hk : S.2.1 BIG = (7, L)) (hL : L ≤ 2147483647) (h0 : 0 ≤ i) (h1 : i + 6 ≤ L) (hx : ∀ j, σ BIG j = xs j) (hc : cT σ M) (hm : mT σ M) (nx : NX S σ i rc rs Q) : AW mL_law 616 (lL i) [] S σ (1 + rc) (152 + rs) Q := by
  refine r_aload_n dL_law_616 rfl ?_
  refine g_callVv (z := mX10_travel) [] dL_law_617 mv_X10_travel lk_L_70 rfl (by decide) (k_1 hS) (Nat.le_of_ble_eq_true rfl) (c_travel hS σ _ hc (fun σ1 hc1 f1 => ?_))
  have hx1 := fun j => (f1 BIG (by unfold BIG; omega) j).trans (hx j)
  have hm1 := fr_m hm f1
  refine r_aload_n dL_law_620 rfl ?_
  refine g_callVv (z := mX11_travel) [] dL_law_621 mv_X11_travel lk_L_73 rfl (by decide) (k_125 hS) (Nat.le_of_ble_eq_true rfl) (q_travel hS σ1 _ hc.1 hm1 (fun σ2 hm2 f2 => ?_))
  refine r_icmp_eq (tgt := 1285) dL_law_624 rfl (fun _ => ?_) (fun c => absurd rfl c)
  exact AW_rc (nx S σ2 _ (xS.rf hS) (fr_c hc1 f2) hm2 (fun b hb j => (f2 b (by unfold BIG at hb; omega) j).trans (f1 b (by unfold BIG at hb; omega) j))) (by omega) (by omega)
theorem lc_started (hS : SHP S) (hb : S.1 + 1 < BIG) (hk : S.2.1 BIG = (7, L)) (hL : L ≤ 2147483647) (h0 : 0 ≤ i) (h1 : i + 6 ≤ L) (hx : ∀ j, σ BIG j = xs j) (hc : cT σ M) (hm : mT σ M) (nx : NX S σ i rc rs Q) : AW mL_law 629 (lL i) [] S σ (1 + rc) (152 + rs) Q := by
  refine r_aload_n dL_law_629 rfl ?_
  refine g_callVv (z := mX10_started) [] dL_law_630 mv_X10_started lk_L_74 rfl (by decide) (k_1 hS) (Nat.le_of_ble_eq_true rfl) (c_started hS σ _ hc (fun σ1 hc1 f1 => ?_))
  have hx1 := fun j => (f1 BIG (by unfold BIG; omega) j).trans (hx j)
  have hm1 := fr_m hm f1
  refine r_aload_n dL_law_633 rfl ?_
  refine g_callVv (z := mX11_started) [] dL_law_634 mv_X11_started lk_L_77 rfl (by decide) (k_125 hS) (Nat.le_of_ble_eq_true rfl) (q_started hS σ1 _ hc.1 hm1 (fun σ2 hm2 f2 => ?_))
  refine r_icmp_eq (tgt := 1285) dL_law_637 rfl (fun _ => ?_) (fun c => absurd rfl c)
  exact AW_rc (nx S σ2 _ (xS.rf hS) (fr_c hc1 f2) hm2 (fun b hb j => (f2 b (by unfold BIG at hb; omega) j).trans (f1 b (by unfold BIG at hb; omega) j))) (by omega) (by omega)
theorem lc_better (hS : SHP S) (hb : S.1 + 1 < BIG) (hk : S.2.1 BIG = (7, L)) (hL : L ≤ 2147483647) (h0 : 0 ≤ i) (h1 : i + 6 ≤ L) (hx : ∀ j, σ BIG j = xs j) (hc : cT σ M) (hm : mT σ M) (nx : NX S σ i rc rs Q) : AW mL_law 642 (lL i) [] S σ (1 + rc) (152 + rs) Q := by
  refine r_aload_n dL_law_642 rfl ?_
  refine a_arg (ls := lL i) (kc := 1) dL_law_643 dL_law_644 dL_law_646 dL_law_647 dL_law_648 rfl rfl hk hL h0 h1 hx (by decide) ?_
  refine g_callVv (z := mX10_better) [vI (xs (i + 1).toNat)] dL_law_649 mv_X10_better lk_L_78 rfl (by decide) (k_1 hS) (Nat.le_of_ble_eq_true rfl) (c_better hS σ _ hc (fun σ1 hc1 f1 => ?_))
  have hx1 := fun j => (f1 BIG (by unfold BIG; omega) j).trans (hx j)
  have hm1 := fr_m hm f1
  refine r_aload_n dL_law_652 rfl ?_
  refine a_arg (ls := lL i) (kc := 1) dL_law_653 dL_law_654 dL_law_656 dL_law_657 dL_law_658 rfl rfl hk hL h0 h1 hx1 (by decide) ?_
  refine g_callVv (z := mX11_better) [vI (xs (i + 1).toNat)] dL_law_659 mv_X11_better lk_L_81 rfl (by decide) (k_125 hS) (Nat.le_of_ble_eq_true rfl) (q_better hS σ1 _ hc.1 hm1 (fun σ2 hm2 f2 => ?_))
  refine r_icmp_eq (tgt := 1285) dL_law_662 rfl (fun _ => ?_) (fun c => absurd rfl c)
  exact AW_rc (nx S σ2 _ (xS.rf hS) (fr_c hc1 f2) hm2 (fun b hb j => (f2 b (by unfold BIG at hb; omega) j).trans (f1 b (by unfold BIG at hb; omega) j))) (by omega) (by omega)
theorem lc_exchanged (hS : SHP S) (hb : S.1 + 1 < BIG) (hk : S.2.1 BIG = (7, L)) (hL : L ≤ 2147483647) (h0 : 0 ≤ i) (h1 : i + 6 ≤ L) (hx : ∀ j, σ BIG j = xs j) (hc : cT σ M) (hm : mT σ M) (nx : NX S σ i rc rs Q) : AW mL_law 667 (lL i) [] S σ (1 + rc) (152 + rs) Q := by
  refine r_aload_n dL_law_667 rfl ?_
  refine a_arg (ls := lL i) (kc := 1) dL_law_668 dL_law_669 dL_law_671 dL_law_672 dL_law_673 rfl rfl hk hL h0 h1 hx (by decide) ?_
  refine a_arg (ls := lL i) (kc := 2) dL_law_674 dL_law_675 dL_law_677 dL_law_678 dL_law_679 rfl rfl hk hL h0 h1 hx (by decide) ?_
  refine g_callVv (z := mX10_exchanged) [vI (xs (i + 1).toNat), vI (xs (i + 2).toNat)] dL_law_680 mv_X10_exchanged lk_L_82 rfl (by decide) (k_1 hS) (Nat.le_of_ble_eq_true rfl) (c_exchanged hS σ _ hc (fun σ1 hc1 f1 => ?_))
  have hx1 := fun j => (f1 BIG (by unfold BIG; omega) j).trans (hx j)
  have hm1 := fr_m hm f1
  refine r_aload_n dL_law_683 rfl ?_
  refine a_arg (ls := lL i) (kc := 1) dL_law_684 dL_law_685 dL_law_687 dL_law_688 dL_law_689 rfl rfl hk hL h0 h1 hx1 (by decide) ?_
  refine a_arg (ls := lL i) (kc := 2) dL_law_690 dL_law_691 dL_law_693 dL_law_694 dL_law_695 rfl rfl hk hL h0 h1 hx1 (by decide) ?_
  refine g_callVv (z := mX11_exchanged) [vI (xs (i + 1).toNat), vI (xs (i + 2).toNat)] dL_law_696 mv_X11_exchanged lk_L_85 rfl (by decide) (k_125 hS) (Nat.le_of_ble_eq_true rfl) (q_exchanged hS σ1 _ hc.1 hm1 (fun σ2 hm2 f2 => ?_))
  refine r_icmp_eq (tgt := 1285) dL_law_699 rfl (fun _ => ?_) (fun c => absurd rfl c)
  exact AW_rc (nx S σ2 _ (xS.rf hS) (fr_c hc1 f2) hm2 (fun b hb j => (f2 b (by unfold BIG at hb; omega) j).trans (f1 b (by unfold BIG at hb; omega) j))) (by omega) (by omega)
theorem lc_floor (hS : SHP S) (hb : S.1 + 1 < BIG) (hk : S.2.1 BIG = (7, L)) (hL : L ≤ 2147483647) (h0 : 0 ≤ i) (h1 : i + 6 ≤ L) (hx : ∀ j, σ BIG j = xs j) (hc : cT σ M) (hm : mT σ M) (nx : NX S σ i rc rs Q) : AW mL_law 704 (lL i) [] S σ (1 + rc) (152 + rs) Q := by
  refine r_aload_n dL_law_704 rfl ?_
  refine g_callVv (z := mX10_floor) [] dL_law_705 mv_X10_floor lk_L_86 rfl (by decide) (k_1 hS) (Nat.le_of_ble_eq_true rfl) (c_floor hS σ _ hc (fun σ1 hc1 f1 => ?_))
  have hx1 := fun j => (f1 BIG (by unfold BIG; omega) j).trans (hx j)
  have hm1 := fr_m hm f1
  refine r_aload_n dL_law_708 rfl ?_
  refine m_callV (z := mX11_floor) [] dL_law_709 mv_X11_floor lk_L_89 rfl (by decide) (k_125 hS) (Nat.le_of_ble_eq_true rfl) (by decide) (by decide) (q_floor hS σ1 _ hb hc.1 hm1 (fun S2 σ2 x2 hm2 f2 => ?_))
  refine r_icmp_eq (tgt := 1285) dL_law_712 rfl (fun _ => ?_) (fun c => absurd rfl c)
  exact nx S2 σ2 _ x2 (fr_cT hc1 f2) hm2 (fun b hb j => (f2 b (Or.inr (Or.inr hb)) j).trans (f1 b (by unfold BIG at hb; omega) j))
theorem lc_time (hS : SHP S) (hb : S.1 + 1 < BIG) (hk : S.2.1 BIG = (7, L)) (hL : L ≤ 2147483647) (h0 : 0 ≤ i) (h1 : i + 6 ≤ L) (hx : ∀ j, σ BIG j = xs j) (hc : cT σ M) (hm : mT σ M) (nx : NX S σ i rc rs Q) : AW mL_law 717 (lL i) [] S σ (1 + rc) (152 + rs) Q := by
  refine r_aload_n dL_law_717 rfl ?_
  refine g_callVv (z := mX10_time) [] dL_law_718 mv_X10_time lk_L_90 rfl (by decide) (k_1 hS) (Nat.le_of_ble_eq_true rfl) (c_time hS σ _ hc (fun σ1 hc1 f1 => ?_))
  have hx1 := fun j => (f1 BIG (by unfold BIG; omega) j).trans (hx j)
  have hm1 := fr_m hm f1
  refine r_aload_n dL_law_721 rfl ?_
  refine g_callVv (z := mX11_time) [] dL_law_722 mv_X11_time lk_L_93 rfl (by decide) (k_125 hS) (Nat.le_of_ble_eq_true rfl) (q_time hS σ1 _ hc.1 hm1 (fun σ2 hm2 f2 => ?_))
  refine r_icmp_eq (tgt := 1285) dL_law_725 rfl (fun _ => ?_) (fun c => absurd rfl c)
  exact AW_rc (nx S σ2 _ (xS.rf hS) (fr_c hc1 f2) hm2 (fun b hb j => (f2 b (by unfold BIG at hb; omega) j).trans (f1 b (by unfold BIG at hb; omega) j))) (by omega) (by omega)
theorem lc_pen (hS : SHP S) (hb : S.1 + 1 < BIG) (hk : S.2.1 BIG = (7, L)) (hL : L ≤ 2147483647) (h0 : 0 ≤ i) (h1 : i + 6 ≤ L) (hx : ∀ j, σ BIG j = xs j) (hc : cT σ M) (hm : mT σ M) (nx : NX S σ i rc rs Q) : AW mL_law 730 (lL i) [] S σ (1 + rc) (152 + rs) Q := by
  refine r_aload_n dL_law_730 rfl ?_
  refine a_arg (ls := lL i) (kc := 1) dL_law_731 dL_law_732 dL_law_734 dL_law_735 dL_law_736 rfl rfl hk hL h0 h1 hx (by decide) ?_
  refine a_arg (ls := lL i) (kc := 2) dL_law_737 dL_law_738 dL_law_740 dL_law_741 dL_law_742 rfl rfl hk hL h0 h1 hx (by decide) ?_
  refine g_callVv (z := mX10_pen) [vI (xs (i + 1).toNat), vI (xs (i + 2).toNat)] dL_law_743 mv_X10_pen lk_L_94 rfl (by decide) (k_1 hS) (Nat.le_of_ble_eq_true rfl) (c_pen hS σ _ hc (fun σ1 hc1 f1 => ?_))
  have hx1 := fun j => (f1 BIG (by unfold BIG; omega) j).trans (hx j)
  have hm1 := fr_m hm f1
  refine r_aload_n dL_law_746 rfl ?_
  refine a_arg (ls := lL i) (kc := 1) dL_law_747 dL_law_748 dL_law_750 dL_law_751 dL_law_752 rfl rfl hk hL h0 h1 hx1 (by decide) ?_
  refine a_arg (ls := lL i) (kc := 2) dL_law_753 dL_law_754 dL_law_756 dL_law_757 dL_law_758 rfl rfl hk hL h0 h1 hx1 (by decide) ?_
  refine g_callVv (z := mX11_pen) [vI (xs (i + 1).toNat), vI (xs (i + 2).toNat)] dL_law_759 mv_X11_pen lk_L_97 rfl (by decide) (k_125 hS) (Nat.le_of_ble_eq_true rfl) (q_pen hS σ1 _ hc.1 hm1 (fun σ2 hm2 f2 => ?_))
  refine r_icmp_eq (tgt := 1285) dL_law_762 rfl (fun _ => ?_) (fun c => absurd rfl c)
  exact AW_rc (nx S σ2 _ (xS.rf hS) (fr_c hc1 f2) hm2 (fun b hb j => (f2 b (by unfold BIG at hb; omega) j).trans (f1 b (by unfold BIG at hb; omega) j))) (by omega) (by omega)
theorem lc_longest (hS : SHP S) (hb : S.1 + 1 < BIG) (hk : S.2.1 BIG = (7, L)) (hL : L ≤ 2147483647) (h0 : 0 ≤ i) (h1 : i + 6 ≤ L) (hx : ∀ j, σ BIG j = xs j) (hc : cT σ M) (hm : mT σ M) (nx : NX S σ i rc rs Q) : AW mL_law 767 (lL i) [] S σ (1 + rc) (152 + rs) Q := by
  refine r_aload_n dL_law_767 rfl ?_
  refine g_callVv (z := mX10_longest) [] dL_law_768 mv_X10_longest lk_L_98 rfl (by decide) (k_1 hS) (Nat.le_of_ble_eq_true rfl) (c_longest hS σ _ hc (fun σ1 hc1 f1 => ?_))
  have hx1 := fun j => (f1 BIG (by unfold BIG; omega) j).trans (hx j)
  have hm1 := fr_m hm f1
  refine r_aload_n dL_law_771 rfl ?_
  refine g_callVv (z := mX11_longest) [] dL_law_772 mv_X11_longest lk_L_101 rfl (by decide) (k_125 hS) (Nat.le_of_ble_eq_true rfl) (q_longest hS σ1 _ hc.1 hm1 (fun σ2 hm2 f2 => ?_))
  refine r_icmp_eq (tgt := 1285) dL_law_775 rfl (fun _ => ?_) (fun c => absurd rfl c)
  exact AW_rc (nx S σ2 _ (xS.rf hS) (fr_c hc1 f2) hm2 (fun b hb j => (f2 b (by unfold BIG at hb; omega) j).trans (f1 b (by unfold BIG at hb; omega) j))) (by omega) (by omega)
theorem lc_farthest (hS : SHP S) (hb : S.1 + 1 < BIG) (hk : S.2.1 BIG = (7, L)) (hL : L ≤ 2147483647) (h0 : 0 ≤ i) (h1 : i + 6 ≤ L) (hx : ∀ j, σ BIG j = xs j) (hc : cT σ M) (hm : mT σ M) (nx : NX S σ i rc rs Q) : AW mL_law 780 (lL i) [] S σ (1 + rc) (152 + rs) Q := by
  refine r_aload_n dL_law_780 rfl ?_
  refine g_callVv (z := mX10_farthest) [] dL_law_781 mv_X10_farthest lk_L_102 rfl (by decide) (k_1 hS) (Nat.le_of_ble_eq_true rfl) (c_farthest hS σ _ hc (fun σ1 hc1 f1 => ?_))
  have hx1 := fun j => (f1 BIG (by unfold BIG; omega) j).trans (hx j)
  have hm1 := fr_m hm f1
  refine r_aload_n dL_law_784 rfl ?_
  refine g_callVv (z := mX11_farthest) [] dL_law_785 mv_X11_farthest lk_L_105 rfl (by decide) (k_125 hS) (Nat.le_of_ble_eq_true rfl) (q_farthest hS σ1 _ hc.1 hm1 (fun σ2 hm2 f2 => ?_))
  refine r_icmp_eq (tgt := 1285) dL_law_788 rfl (fun _ => ?_) (fun c => absurd rfl c)
  exact AW_rc (nx S σ2 _ (xS.rf hS) (fr_c hc1 f2) hm2 (fun b hb j => (f2 b (by unfold BIG at hb; omega) j).trans (f1 b (by unfold BIG at hb; omega) j))) (by omega) (by omega)
theorem lc_lifts (hS : SHP S) (hb : S.1 + 1 < BIG) (hk : S.2.1 BIG = (7, L)) (hL : L ≤ 2147483647) (h0 : 0 ≤ i) (h1 : i + 6 ≤ L) (hx : ∀ j, σ BIG j = xs j) (hc : cT σ M) (hm : mT σ M) (nx : NX S σ i rc rs Q) : AW mL_law 793 (lL i) [] S σ (1 + rc) (152 + rs) Q := by
  refine r_aload_n dL_law_793 rfl ?_
  refine g_callVv (z := mX10_lifts) [] dL_law_794 mv_X10_lifts lk_L_106 rfl (by decide) (k_1 hS) (Nat.le_of_ble_eq_true rfl) (c_lifts hS σ _ hc (fun σ1 hc1 f1 => ?_))
  have hx1 := fun j => (f1 BIG (by unfold BIG; omega) j).trans (hx j)
  have hm1 := fr_m hm f1
  refine r_aload_n dL_law_797 rfl ?_
  refine g_callVv (z := mX11_lifts) [] dL_law_798 mv_X11_lifts lk_L_109 rfl (by decide) (k_125 hS) (Nat.le_of_ble_eq_true rfl) (q_lifts hS σ1 _ hc.1 hm1 (fun σ2 hm2 f2 => ?_))
  refine r_icmp_eq (tgt := 1285) dL_law_801 rfl (fun _ => ?_) (fun c => absurd rfl c)
  exact AW_rc (nx S σ2 _ (xS.rf hS) (fr_c hc1 f2) hm2 (fun b hb j => (f2 b (by unfold BIG at hb; omega) j).trans (f1 b (by unfold BIG at hb; omega) j))) (by omega) (by omega)
theorem lc_rides (hS : SHP S) (hb : S.1 + 1 < BIG) (hk : S.2.1 BIG = (7, L)) (hL : L ≤ 2147483647) (h0 : 0 ≤ i) (h1 : i + 6 ≤ L) (hx : ∀ j, σ BIG j = xs j) (hc : cT σ M) (hm : mT σ M) (nx : NX S σ i rc rs Q) : AW mL_law 806 (lL i) [] S σ (1 + rc) (152 + rs) Q := by
  refine r_aload_n dL_law_806 rfl ?_
  refine a_arg (ls := lL i) (kc := 1) dL_law_807 dL_law_808 dL_law_810 dL_law_811 dL_law_812 rfl rfl hk hL h0 h1 hx (by decide) ?_
  refine g_callVv (z := mX10_rides) [vI (xs (i + 1).toNat)] dL_law_813 mv_X10_rides lk_L_110 rfl (by decide) (k_1 hS) (Nat.le_of_ble_eq_true rfl) (c_rides hS σ _ hc (fun σ1 hc1 f1 => ?_))
  have hx1 := fun j => (f1 BIG (by unfold BIG; omega) j).trans (hx j)
  have hm1 := fr_m hm f1
  refine r_aload_n dL_law_816 rfl ?_
  refine a_arg (ls := lL i) (kc := 1) dL_law_817 dL_law_818 dL_law_820 dL_law_821 dL_law_822 rfl rfl hk hL h0 h1 hx1 (by decide) ?_
  refine g_callVv (z := mX11_rides) [vI (xs (i + 1).toNat)] dL_law_823 mv_X11_rides lk_L_113 rfl (by decide) (k_125 hS) (Nat.le_of_ble_eq_true rfl) (q_rides hS σ1 _ hc.1 hm1 (fun σ2 hm2 f2 => ?_))
  refine r_icmp_eq (tgt := 1285) dL_law_826 rfl (fun _ => ?_) (fun c => absurd rfl c)
  exact AW_rc (nx S σ2 _ (xS.rf hS) (fr_c hc1 f2) hm2 (fun b hb j => (f2 b (by unfold BIG at hb; omega) j).trans (f1 b (by unfold BIG at hb; omega) j))) (by omega) (by omega)
theorem lc_would (hS : SHP S) (hb : S.1 + 1 < BIG) (hk : S.2.1 BIG = (7, L)) (hL : L ≤ 2147483647) (h0 : 0 ≤ i) (h1 : i + 6 ≤ L) (hx : ∀ j, σ BIG j = xs j) (hc : cT σ M) (hm : mT σ M) (nx : NX S σ i rc rs Q) : AW mL_law 831 (lL i) [] S σ (1 + rc) (152 + rs) Q := by
  refine r_aload_n dL_law_831 rfl ?_
  refine a_arg (ls := lL i) (kc := 1) dL_law_832 dL_law_833 dL_law_835 dL_law_836 dL_law_837 rfl rfl hk hL h0 h1 hx (by decide) ?_
  refine a_arg (ls := lL i) (kc := 2) dL_law_838 dL_law_839 dL_law_841 dL_law_842 dL_law_843 rfl rfl hk hL h0 h1 hx (by decide) ?_
  refine a_arg (ls := lL i) (kc := 3) dL_law_844 dL_law_845 dL_law_847 dL_law_848 dL_law_849 rfl rfl hk hL h0 h1 hx (by decide) ?_
  refine a_arg (ls := lL i) (kc := 4) dL_law_850 dL_law_851 dL_law_853 dL_law_854 dL_law_855 rfl rfl hk hL h0 h1 hx (by decide) ?_
  refine g_callVv (z := mX10_would) [vI (xs (i + 1).toNat), vI (xs (i + 2).toNat), vI (xs (i + 3).toNat), vI (xs (i + 4).toNat)] dL_law_856 mv_X10_would lk_L_114 rfl (by decide) (k_1 hS) (Nat.le_of_ble_eq_true rfl) (c_would hS σ _ hc (fun σ1 hc1 f1 => ?_))
  have hx1 := fun j => (f1 BIG (by unfold BIG; omega) j).trans (hx j)
  have hm1 := fr_m hm f1
  refine r_aload_n dL_law_859 rfl ?_
  refine a_arg (ls := lL i) (kc := 1) dL_law_860 dL_law_861 dL_law_863 dL_law_864 dL_law_865 rfl rfl hk hL h0 h1 hx1 (by decide) ?_
  refine a_arg (ls := lL i) (kc := 2) dL_law_866 dL_law_867 dL_law_869 dL_law_870 dL_law_871 rfl rfl hk hL h0 h1 hx1 (by decide) ?_
  refine a_arg (ls := lL i) (kc := 3) dL_law_872 dL_law_873 dL_law_875 dL_law_876 dL_law_877 rfl rfl hk hL h0 h1 hx1 (by decide) ?_
  refine a_arg (ls := lL i) (kc := 4) dL_law_878 dL_law_879 dL_law_881 dL_law_882 dL_law_883 rfl rfl hk hL h0 h1 hx1 (by decide) ?_
  refine g_callVv (z := mX11_would) [vI (xs (i + 1).toNat), vI (xs (i + 2).toNat), vI (xs (i + 3).toNat), vI (xs (i + 4).toNat)] dL_law_884 mv_X11_would lk_L_118 rfl (by decide) (k_125 hS) (Nat.le_of_ble_eq_true rfl) (q_would hS σ1 _ hc.1 hm1 (fun σ2 hm2 f2 => ?_))
  refine r_icmp_eq (tgt := 1285) dL_law_887 rfl (fun _ => ?_) (fun c => absurd rfl c)
  exact AW_rc (nx S σ2 _ (xS.rf hS) (fr_c hc1 f2) hm2 (fun b hb j => (f2 b (by unfold BIG at hb; omega) j).trans (f1 b (by unfold BIG at hb; omega) j))) (by omega) (by omega)
theorem lc_worst (hS : SHP S) (hb : S.1 + 1 < BIG) (hk : S.2.1 BIG = (7, L)) (hL : L ≤ 2147483647) (h0 : 0 ≤ i) (h1 : i + 6 ≤ L) (hx : ∀ j, σ BIG j = xs j) (hc : cT σ M) (hm : mT σ M) (nx : NX S σ i rc rs Q) : AW mL_law 892 (lL i) [] S σ (1 + rc) (152 + rs) Q := by
  refine r_aload_n dL_law_892 rfl ?_
  refine g_callVv (z := mX10_worst) [] dL_law_893 mv_X10_worst lk_L_119 rfl (by decide) (k_1 hS) (Nat.le_of_ble_eq_true rfl) (c_worst hS σ _ hc (fun σ1 hc1 f1 => ?_))
  have hx1 := fun j => (f1 BIG (by unfold BIG; omega) j).trans (hx j)
  have hm1 := fr_m hm f1
  refine r_aload_n dL_law_896 rfl ?_
  refine g_callVv (z := mX11_worst) [] dL_law_897 mv_X11_worst lk_L_122 rfl (by decide) (k_125 hS) (Nat.le_of_ble_eq_true rfl) (q_worst hS σ1 _ hc.1 hm1 (fun σ2 hm2 f2 => ?_))
  refine r_icmp_eq (tgt := 1285) dL_law_900 rfl (fun _ => ?_) (fun c => absurd rfl c)
  exact AW_rc (nx S σ2 _ (xS.rf hS) (fr_c hc1 f2) hm2 (fun b hb j => (f2 b (by unfold BIG at hb; omega) j).trans (f1 b (by unfold BIG at hb; omega) j))) (by omega) (by omega)
theorem lc_nearest (hS : SHP S) (hb : S.1 + 1 < BIG) (hk : S.2.1 BIG = (7, L)) (hL : L ≤ 2147483647) (h0 : 0 ≤ i) (h1 : i + 6 ≤ L) (hx : ∀ j, σ BIG j = xs j) (hc : cT σ M) (hm : mT σ M) (nx : NX S σ i rc rs Q) : AW mL_law 905 (lL i) [] S σ (1 + rc) (152 + rs) Q := by
  refine r_aload_n dL_law_905 rfl ?_
  refine g_callVv (z := mX10_nearest) [] dL_law_906 mv_X10_nearest lk_L_123 rfl (by decide) (k_1 hS) (Nat.le_of_ble_eq_true rfl) (c_nearest hS σ _ hc (fun σ1 hc1 f1 => ?_))
  have hx1 := fun j => (f1 BIG (by unfold BIG; omega) j).trans (hx j)
  have hm1 := fr_m hm f1
  refine r_aload_n dL_law_909 rfl ?_
  refine g_callVv (z := mX11_nearest) [] dL_law_910 mv_X11_nearest lk_L_126 rfl (by decide) (k_125 hS) (Nat.le_of_ble_eq_true rfl) (q_nearest hS σ1 _ hc.1 hm1 (fun σ2 hm2 f2 => ?_))
  refine r_icmp_eq (tgt := 1285) dL_law_913 rfl (fun _ => ?_) (fun c => absurd rfl c)
  exact AW_rc (nx S σ2 _ (xS.rf hS) (fr_c hc1 f2) hm2 (fun b hb j => (f2 b (by unfold BIG at hb; omega) j).trans (f1 b (by unfold BIG at hb; omega) j))) (by omega) (by omega)
theorem lc_enough (hS : SHP S) (hb : S.1 + 1 < BIG) (hk : S.2.1 BIG = (7, L)) (hL : L ≤ 2147483647) (h0 : 0 ≤ i) (h1 : i + 6 ≤ L) (hx : ∀ j, σ BIG j = xs j) (hc : cT σ M) (hm : mT σ M) (nx : NX S σ i rc rs Q) : AW mL_law 918 (lL i) [] S σ (1 + rc) (152 + rs) Q := by
  refine r_aload_n dL_law_918 rfl ?_
  refine a_arg (ls := lL i) (kc := 1) dL_law_919 dL_law_920 dL_law_922 dL_law_923 dL_law_924 rfl rfl hk hL h0 h1 hx (by decide) ?_
  refine g_callVv (z := mX10_enough) [vI (xs (i + 1).toNat)] dL_law_925 mv_X10_enough lk_L_127 rfl (by decide) (k_1 hS) (Nat.le_of_ble_eq_true rfl) (c_enough hS σ _ hc (fun σ1 hc1 f1 => ?_))
  have hx1 := fun j => (f1 BIG (by unfold BIG; omega) j).trans (hx j)
  have hm1 := fr_m hm f1
  refine r_aload_n dL_law_928 rfl ?_
  refine a_arg (ls := lL i) (kc := 1) dL_law_929 dL_law_930 dL_law_932 dL_law_933 dL_law_934 rfl rfl hk hL h0 h1 hx1 (by decide) ?_
  refine g_callVv (z := mX11_enough) [vI (xs (i + 1).toNat)] dL_law_935 mv_X11_enough lk_L_130 rfl (by decide) (k_125 hS) (Nat.le_of_ble_eq_true rfl) (q_enough hS σ1 _ hc.1 hm1 (fun σ2 hm2 f2 => ?_))
  refine r_icmp_eq (tgt := 1285) dL_law_938 rfl (fun _ => ?_) (fun c => absurd rfl c)
  exact AW_rc (nx S σ2 _ (xS.rf hS) (fr_c hc1 f2) hm2 (fun b hb j => (f2 b (by unfold BIG at hb; omega) j).trans (f1 b (by unfold BIG at hb; omega) j))) (by omega) (by omega)
theorem lc_add (hS : SHP S) (hb : S.1 + 1 < BIG) (hk : S.2.1 BIG = (7, L)) (hL : L ≤ 2147483647) (h0 : 0 ≤ i) (h1 : i + 6 ≤ L) (hx : ∀ j, σ BIG j = xs j) (hc : cT σ M) (hm : mT σ M) (nx : NX S σ i rc rs Q) : AW mL_law 943 (lL i) [] S σ (1 + rc) (152 + rs) Q := by
  refine r_aload_n dL_law_943 rfl ?_
  refine a_arg (ls := lL i) (kc := 1) dL_law_944 dL_law_945 dL_law_947 dL_law_948 dL_law_949 rfl rfl hk hL h0 h1 hx (by decide) ?_
  refine a_arg (ls := lL i) (kc := 2) dL_law_950 dL_law_951 dL_law_953 dL_law_954 dL_law_955 rfl rfl hk hL h0 h1 hx (by decide) ?_
  refine a_arg (ls := lL i) (kc := 3) dL_law_956 dL_law_957 dL_law_959 dL_law_960 dL_law_961 rfl rfl hk hL h0 h1 hx (by decide) ?_
  refine a_arg (ls := lL i) (kc := 4) dL_law_962 dL_law_963 dL_law_965 dL_law_966 dL_law_967 rfl rfl hk hL h0 h1 hx (by decide) ?_
  refine g_callVv (z := mX10_add) [vI (xs (i + 1).toNat), vI (xs (i + 2).toNat), vI (xs (i + 3).toNat), vI (xs (i + 4).toNat)] dL_law_968 mv_X10_add lk_L_131 rfl (by decide) (k_1 hS) (Nat.le_of_ble_eq_true rfl) (c_add hS σ _ hc (fun σ1 hc1 f1 => ?_))
  have hx1 := fun j => (f1 BIG (by unfold BIG; omega) j).trans (hx j)
  have hm1 := fr_m hm f1
  refine r_aload_n dL_law_971 rfl ?_
  refine a_arg (ls := lL i) (kc := 1) dL_law_972 dL_law_973 dL_law_975 dL_law_976 dL_law_977 rfl rfl hk hL h0 h1 hx1 (by decide) ?_
  refine a_arg (ls := lL i) (kc := 2) dL_law_978 dL_law_979 dL_law_981 dL_law_982 dL_law_983 rfl rfl hk hL h0 h1 hx1 (by decide) ?_
  refine a_arg (ls := lL i) (kc := 3) dL_law_984 dL_law_985 dL_law_987 dL_law_988 dL_law_989 rfl rfl hk hL h0 h1 hx1 (by decide) ?_
  refine a_arg (ls := lL i) (kc := 4) dL_law_990 dL_law_991 dL_law_993 dL_law_994 dL_law_995 rfl rfl hk hL h0 h1 hx1 (by decide) ?_
  refine g_callVv (z := mX11_add) [vI (xs (i + 1).toNat), vI (xs (i + 2).toNat), vI (xs (i + 3).toNat), vI (xs (i + 4).toNat)] dL_law_996 mv_X11_add lk_L_134 rfl (by decide) (k_125 hS) (Nat.le_of_ble_eq_true rfl) (q_add hS σ1 _ hc.1 hm1 (fun σ2 hm2 f2 => ?_))
  refine r_icmp_eq (tgt := 1285) dL_law_999 rfl (fun _ => ?_) (fun c => absurd rfl c)
  exact AW_rc (nx S σ2 _ (xS.rf hS) (fr_c hc1 f2) hm2 (fun b hb j => (f2 b (by unfold BIG at hb; omega) j).trans (f1 b (by unfold BIG at hb; omega) j))) (by omega) (by omega)
theorem lc_drop (hS : SHP S) (hb : S.1 + 1 < BIG) (hk : S.2.1 BIG = (7, L)) (hL : L ≤ 2147483647) (h0 : 0 ≤ i) (h1 : i + 6 ≤ L) (hx : ∀ j, σ BIG j = xs j) (hc : cT σ M) (hm : mT σ M) (nx : NX S σ i rc rs Q) : AW mL_law 1004 (lL i) [] S σ (1 + rc) (152 + rs) Q := by
  refine r_aload_n dL_law_1004 rfl ?_
  refine a_arg (ls := lL i) (kc := 1) dL_law_1005 dL_law_1006 dL_law_1008 dL_law_1009 dL_law_1010 rfl rfl hk hL h0 h1 hx (by decide) ?_
  refine g_callVv (z := mX10_drop) [vI (xs (i + 1).toNat)] dL_law_1011 mv_X10_drop lk_L_135 rfl (by decide) (k_1 hS) (Nat.le_of_ble_eq_true rfl) (c_drop hS σ _ hc (fun σ1 hc1 f1 => ?_))
  have hx1 := fun j => (f1 BIG (by unfold BIG; omega) j).trans (hx j)
  have hm1 := fr_m hm f1
  refine r_aload_n dL_law_1014 rfl ?_
  refine a_arg (ls := lL i) (kc := 1) dL_law_1015 dL_law_1016 dL_law_1018 dL_law_1019 dL_law_1020 rfl rfl hk hL h0 h1 hx1 (by decide) ?_
  refine g_callVv (z := mX11_drop) [vI (xs (i + 1).toNat)] dL_law_1021 mv_X11_drop lk_L_138 rfl (by decide) (k_125 hS) (Nat.le_of_ble_eq_true rfl) (q_drop hS σ1 _ hc.1 hm1 (fun σ2 hm2 f2 => ?_))
  refine r_icmp_eq (tgt := 1285) dL_law_1024 rfl (fun _ => ?_) (fun c => absurd rfl c)
  exact AW_rc (nx S σ2 _ (xS.rf hS) (fr_c hc1 f2) hm2 (fun b hb j => (f2 b (by unfold BIG at hb; omega) j).trans (f1 b (by unfold BIG at hb; omega) j))) (by omega) (by omega)
theorem lc_home (hS : SHP S) (hb : S.1 + 1 < BIG) (hk : S.2.1 BIG = (7, L)) (hL : L ≤ 2147483647) (h0 : 0 ≤ i) (h1 : i + 6 ≤ L) (hx : ∀ j, σ BIG j = xs j) (hc : cT σ M) (hm : mT σ M) (nx : NX S σ i rc rs Q) : AW mL_law 1029 (lL i) [] S σ (1 + rc) (152 + rs) Q := by
  refine r_aload_n dL_law_1029 rfl ?_
  refine a_arg (ls := lL i) (kc := 1) dL_law_1030 dL_law_1031 dL_law_1033 dL_law_1034 dL_law_1035 rfl rfl hk hL h0 h1 hx (by decide) ?_
  refine a_arg (ls := lL i) (kc := 2) dL_law_1036 dL_law_1037 dL_law_1039 dL_law_1040 dL_law_1041 rfl rfl hk hL h0 h1 hx (by decide) ?_
  refine g_callVv (z := mX10_home) [vI (xs (i + 1).toNat), vI (xs (i + 2).toNat)] dL_law_1042 mv_X10_home lk_L_139 rfl (by decide) (k_1 hS) (Nat.le_of_ble_eq_true rfl) (c_home hS σ _ hc (fun σ1 hc1 f1 => ?_))
  have hx1 := fun j => (f1 BIG (by unfold BIG; omega) j).trans (hx j)
  have hm1 := fr_m hm f1
  refine r_aload_n dL_law_1045 rfl ?_
  refine a_arg (ls := lL i) (kc := 1) dL_law_1046 dL_law_1047 dL_law_1049 dL_law_1050 dL_law_1051 rfl rfl hk hL h0 h1 hx1 (by decide) ?_
  refine a_arg (ls := lL i) (kc := 2) dL_law_1052 dL_law_1053 dL_law_1055 dL_law_1056 dL_law_1057 rfl rfl hk hL h0 h1 hx1 (by decide) ?_
  refine g_callVv (z := mX11_home) [vI (xs (i + 1).toNat), vI (xs (i + 2).toNat)] dL_law_1058 mv_X11_home lk_L_142 rfl (by decide) (k_125 hS) (Nat.le_of_ble_eq_true rfl) (q_home hS σ1 _ hc.1 hm1 (fun σ2 hm2 f2 => ?_))
  refine r_icmp_eq (tgt := 1285) dL_law_1061 rfl (fun _ => ?_) (fun c => absurd rfl c)
  exact AW_rc (nx S σ2 _ (xS.rf hS) (fr_c hc1 f2) hm2 (fun b hb j => (f2 b (by unfold BIG at hb; omega) j).trans (f1 b (by unfold BIG at hb; omega) j))) (by omega) (by omega)
theorem lc_join (hS : SHP S) (hb : S.1 + 1 < BIG) (hk : S.2.1 BIG = (7, L)) (hL : L ≤ 2147483647) (h0 : 0 ≤ i) (h1 : i + 6 ≤ L) (hx : ∀ j, σ BIG j = xs j) (hc : cT σ M) (hm : mT σ M) (nx : NX S σ i rc rs Q) : AW mL_law 1066 (lL i) [] S σ (1 + rc) (152 + rs) Q := by
  refine r_aload_n dL_law_1066 rfl ?_
  refine a_arg (ls := lL i) (kc := 1) dL_law_1067 dL_law_1068 dL_law_1070 dL_law_1071 dL_law_1072 rfl rfl hk hL h0 h1 hx (by decide) ?_
  refine g_callVv (z := mX10_join) [vI (xs (i + 1).toNat)] dL_law_1073 mv_X10_join lk_L_143 rfl (by decide) (k_1 hS) (Nat.le_of_ble_eq_true rfl) (c_join hS σ _ hc (fun σ1 hc1 f1 => ?_))
  have hx1 := fun j => (f1 BIG (by unfold BIG; omega) j).trans (hx j)
  have hm1 := fr_m hm f1
  refine r_aload_n dL_law_1076 rfl ?_
  refine a_arg (ls := lL i) (kc := 1) dL_law_1077 dL_law_1078 dL_law_1080 dL_law_1081 dL_law_1082 rfl rfl hk hL h0 h1 hx1 (by decide) ?_
  refine g_callVv (z := mX11_join) [vI (xs (i + 1).toNat)] dL_law_1083 mv_X11_join lk_L_146 rfl (by decide) (k_125 hS) (Nat.le_of_ble_eq_true rfl) (q_join hS σ1 _ hc.1 hm1 (fun σ2 hm2 f2 => ?_))
  refine r_icmp_eq (tgt := 1285) dL_law_1086 rfl (fun _ => ?_) (fun c => absurd rfl c)
  exact AW_rc (nx S σ2 _ (xS.rf hS) (fr_c hc1 f2) hm2 (fun b hb j => (f2 b (by unfold BIG at hb; omega) j).trans (f1 b (by unfold BIG at hb; omega) j))) (by omega) (by omega)
theorem lc_pace (hS : SHP S) (hb : S.1 + 1 < BIG) (hk : S.2.1 BIG = (7, L)) (hL : L ≤ 2147483647) (h0 : 0 ≤ i) (h1 : i + 6 ≤ L) (hx : ∀ j, σ BIG j = xs j) (hc : cT σ M) (hm : mT σ M) (nx : NX S σ i rc rs Q) : AW mL_law 1091 (lL i) [] S σ (1 + rc) (152 + rs) Q := by
  refine r_aload_n dL_law_1091 rfl ?_
  refine a_arg (ls := lL i) (kc := 1) dL_law_1092 dL_law_1093 dL_law_1095 dL_law_1096 dL_law_1097 rfl rfl hk hL h0 h1 hx (by decide) ?_
  refine a_arg (ls := lL i) (kc := 2) dL_law_1098 dL_law_1099 dL_law_1101 dL_law_1102 dL_law_1103 rfl rfl hk hL h0 h1 hx (by decide) ?_
  refine g_callVv (z := mX10_pace) [vI (xs (i + 1).toNat), vI (xs (i + 2).toNat)] dL_law_1104 mv_X10_pace lk_L_147 rfl (by decide) (k_1 hS) (Nat.le_of_ble_eq_true rfl) (c_pace hS σ _ hc (fun σ1 hc1 f1 => ?_))
  have hx1 := fun j => (f1 BIG (by unfold BIG; omega) j).trans (hx j)
  have hm1 := fr_m hm f1
  refine r_aload_n dL_law_1107 rfl ?_
  refine a_arg (ls := lL i) (kc := 1) dL_law_1108 dL_law_1109 dL_law_1111 dL_law_1112 dL_law_1113 rfl rfl hk hL h0 h1 hx1 (by decide) ?_
  refine a_arg (ls := lL i) (kc := 2) dL_law_1114 dL_law_1115 dL_law_1117 dL_law_1118 dL_law_1119 rfl rfl hk hL h0 h1 hx1 (by decide) ?_
  refine g_callVv (z := mX11_pace) [vI (xs (i + 1).toNat), vI (xs (i + 2).toNat)] dL_law_1120 mv_X11_pace lk_L_150 rfl (by decide) (k_125 hS) (Nat.le_of_ble_eq_true rfl) (q_pace hS σ1 _ hc.1 hm1 (fun σ2 hm2 f2 => ?_))
  refine r_icmp_eq (tgt := 1285) dL_law_1123 rfl (fun _ => ?_) (fun c => absurd rfl c)
  exact AW_rc (nx S σ2 _ (xS.rf hS) (fr_c hc1 f2) hm2 (fun b hb j => (f2 b (by unfold BIG at hb; omega) j).trans (f1 b (by unfold BIG at hb; omega) j))) (by omega) (by omega)
theorem lc_exchange (hS : SHP S) (hb : S.1 + 1 < BIG) (hk : S.2.1 BIG = (7, L)) (hL : L ≤ 2147483647) (h0 : 0 ≤ i) (h1 : i + 6 ≤ L) (hx : ∀ j, σ BIG j = xs j) (hc : cT σ M) (hm : mT σ M) (nx : NX S σ i rc rs Q) : AW mL_law 1128 (lL i) [] S σ (1 + rc) (152 + rs) Q := by
  refine r_aload_n dL_law_1128 rfl ?_
  refine a_arg (ls := lL i) (kc := 1) dL_law_1129 dL_law_1130 dL_law_1132 dL_law_1133 dL_law_1134 rfl rfl hk hL h0 h1 hx (by decide) ?_
  refine a_arg (ls := lL i) (kc := 2) dL_law_1135 dL_law_1136 dL_law_1138 dL_law_1139 dL_law_1140 rfl rfl hk hL h0 h1 hx (by decide) ?_
  refine g_callVv (z := mX10_exchange) [vI (xs (i + 1).toNat), vI (xs (i + 2).toNat)] dL_law_1141 mv_X10_exchange lk_L_151 rfl (by decide) (k_1 hS) (Nat.le_of_ble_eq_true rfl) (c_exchange hS σ _ hc (fun σ1 hc1 f1 => ?_))
  have hx1 := fun j => (f1 BIG (by unfold BIG; omega) j).trans (hx j)
  have hm1 := fr_m hm f1
  refine r_aload_n dL_law_1144 rfl ?_
  refine a_arg (ls := lL i) (kc := 1) dL_law_1145 dL_law_1146 dL_law_1148 dL_law_1149 dL_law_1150 rfl rfl hk hL h0 h1 hx1 (by decide) ?_
  refine a_arg (ls := lL i) (kc := 2) dL_law_1151 dL_law_1152 dL_law_1154 dL_law_1155 dL_law_1156 rfl rfl hk hL h0 h1 hx1 (by decide) ?_
  refine g_callVv (z := mX11_exchange) [vI (xs (i + 1).toNat), vI (xs (i + 2).toNat)] dL_law_1157 mv_X11_exchange lk_L_154 rfl (by decide) (k_125 hS) (Nat.le_of_ble_eq_true rfl) (q_exchange hS σ1 _ hc.1 hm1 (fun σ2 hm2 f2 => ?_))
  refine r_icmp_eq (tgt := 1285) dL_law_1160 rfl (fun _ => ?_) (fun c => absurd rfl c)
  exact AW_rc (nx S σ2 _ (xS.rf hS) (fr_c hc1 f2) hm2 (fun b hb j => (f2 b (by unfold BIG at hb; omega) j).trans (f1 b (by unfold BIG at hb; omega) j))) (by omega) (by omega)
theorem lc_improve (hS : SHP S) (hb : S.1 + 1 < BIG) (hk : S.2.1 BIG = (7, L)) (hL : L ≤ 2147483647) (h0 : 0 ≤ i) (h1 : i + 6 ≤ L) (hx : ∀ j, σ BIG j = xs j) (hc : cT σ M) (hm : mT σ M) (nx : NX S σ i rc rs Q) : AW mL_law 1165 (lL i) [] S σ (1 + rc) (152 + rs) Q := by
  refine r_aload_n dL_law_1165 rfl ?_
  refine g_callVv (z := mX10_improve) [] dL_law_1166 mv_X10_improve lk_L_155 rfl (by decide) (k_1 hS) (Nat.le_of_ble_eq_true rfl) (c_improve hS σ _ hc (fun σ1 hc1 f1 => ?_))
  have hx1 := fun j => (f1 BIG (by unfold BIG; omega) j).trans (hx j)
  have hm1 := fr_m hm f1
  refine r_aload_n dL_law_1169 rfl ?_
  refine m_callV (z := mX11_improve) [] dL_law_1170 mv_X11_improve lk_L_158 rfl (by decide) (k_125 hS) (Nat.le_of_ble_eq_true rfl) (by decide) (by decide) (q_improve hS σ1 _ hb hc.1 hm1 (fun S2 σ2 x2 hm2 f2 => ?_))
  refine r_icmp_eq (tgt := 1285) dL_law_1173 rfl (fun _ => ?_) (fun c => absurd rfl c)
  exact nx S2 σ2 _ x2 (fr_cT hc1 f2) hm2 (fun b hb j => (f2 b (Or.inr (Or.inr hb)) j).trans (f1 b (by unfold BIG at hb; omega) j))
theorem lc_undo (hS : SHP S) (hb : S.1 + 1 < BIG) (hk : S.2.1 BIG = (7, L)) (hL : L ≤ 2147483647) (h0 : 0 ≤ i) (h1 : i + 6 ≤ L) (hx : ∀ j, σ BIG j = xs j) (hc : cT σ M) (hm : mT σ M) (nx : NX S σ i rc rs Q) : AW mL_law 1178 (lL i) [] S σ (1 + rc) (152 + rs) Q := by
  refine r_aload_n dL_law_1178 rfl ?_
  refine g_callVv (z := mX10_undo) [] dL_law_1179 mv_X10_undo lk_L_159 rfl (by decide) (k_1 hS) (Nat.le_of_ble_eq_true rfl) (c_undo hS σ _ hc (fun σ1 hc1 f1 => ?_))
  have hx1 := fun j => (f1 BIG (by unfold BIG; omega) j).trans (hx j)
  have hm1 := fr_m hm f1
  refine r_aload_n dL_law_1182 rfl ?_
  refine g_callVv (z := mX11_undo) [] dL_law_1183 mv_X11_undo lk_L_163 rfl (by decide) (k_125 hS) (Nat.le_of_ble_eq_true rfl) (q_undo hS σ1 _ hc.1 hm1 (fun σ2 hm2 f2 => ?_))
  refine r_icmp_eq (tgt := 1285) dL_law_1186 rfl (fun _ => ?_) (fun c => absurd rfl c)
  exact AW_rc (nx S σ2 _ (xS.rf hS) (fr_c hc1 f2) hm2 (fun b hb j => (f2 b (by unfold BIG at hb; omega) j).trans (f1 b (by unfold BIG at hb; omega) j))) (by omega) (by omega)
theorem lc_size (hS : SHP S) (hb : S.1 + 1 < BIG) (hk : S.2.1 BIG = (7, L)) (hL : L ≤ 2147483647) (h0 : 0 ≤ i) (h1 : i + 6 ≤ L) (hx : ∀ j, σ BIG j = xs j) (hc : cT σ M) (hm : mT σ M) (nx : NX S σ i rc rs Q) : AW mL_law 1247 (lL i) [] S σ (1 + rc) (152 + rs) Q := by
  refine r_aload_n dL_law_1247 rfl ?_
  refine a_arg (ls := lL i) (kc := 1) dL_law_1248 dL_law_1249 dL_law_1251 dL_law_1252 dL_law_1253 rfl rfl hk hL h0 h1 hx (by decide) ?_
  refine g_callVv (z := mX10_size) [vI (xs (i + 1).toNat)] dL_law_1254 mv_X10_size lk_L_173 rfl (by decide) (k_1 hS) (Nat.le_of_ble_eq_true rfl) (c_size hS σ _ hc (fun σ1 hc1 f1 => ?_))
  have hx1 := fun j => (f1 BIG (by unfold BIG; omega) j).trans (hx j)
  have hm1 := fr_m hm f1
  refine r_aload_n dL_law_1257 rfl ?_
  refine a_arg (ls := lL i) (kc := 1) dL_law_1258 dL_law_1259 dL_law_1261 dL_law_1262 dL_law_1263 rfl rfl hk hL h0 h1 hx1 (by decide) ?_
  refine g_callVv (z := mX11_size) [vI (xs (i + 1).toNat)] dL_law_1264 mv_X11_size lk_L_176 rfl (by decide) (k_125 hS) (Nat.le_of_ble_eq_true rfl) (q_size hS σ1 _ hc.1 hm1 (fun σ2 hm2 f2 => ?_))
  refine r_icmp_eq (tgt := 1285) dL_law_1267 rfl (fun _ => ?_) (fun c => absurd rfl c)
  exact AW_rc (nx S σ2 _ (xS.rf hS) (fr_c hc1 f2) hm2 (fun b hb j => (f2 b (by unfold BIG at hb; omega) j).trans (f1 b (by unfold BIG at hb; omega) j))) (by omega) (by omega)
theorem lc_trouble (hS : SHP S) (hb : S.1 + 1 < BIG) (hk : S.2.1 BIG = (7, L)) (hL : L ≤ 2147483647) (h0 : 0 ≤ i) (h1 : i + 6 ≤ L) (hx : ∀ j, σ BIG j = xs j) (hc : cT σ M) (hm : mT σ M) (nx : NX S σ i rc rs Q) : AW mL_law 1272 (lL i) [] S σ (1 + rc) (152 + rs) Q := by
  refine r_aload_n dL_law_1272 rfl ?_
  refine g_callVv (z := mX10_trouble) [] dL_law_1273 mv_X10_trouble lk_L_177 rfl (by decide) (k_1 hS) (Nat.le_of_ble_eq_true rfl) (c_trouble hS σ _ hc (fun σ1 hc1 f1 => ?_))
  have hx1 := fun j => (f1 BIG (by unfold BIG; omega) j).trans (hx j)
  have hm1 := fr_m hm f1
  refine r_aload_n dL_law_1276 rfl ?_
  refine g_callVv (z := mX11_trouble) [] dL_law_1277 mv_X11_trouble lk_L_180 rfl (by decide) (k_125 hS) (Nat.le_of_ble_eq_true rfl) (q_trouble hS σ1 _ hc.1 hm1 (fun σ2 hm2 f2 => ?_))
  refine r_icmp_eq (tgt := 1285) dL_law_1280 rfl (fun _ => ?_) (fun c => absurd rfl c)
  exact AW_rc (nx S σ2 _ (xS.rf hS) (fr_c hc1 f2) hm2 (fun b hb j => (f2 b (by unfold BIG at hb; omega) j).trans (f1 b (by unfold BIG at hb; omega) j))) (by omega) (by omega)
end LCASE
