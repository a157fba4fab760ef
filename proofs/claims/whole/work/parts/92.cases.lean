/-! ===== the cases of the law ===== -/
section CASES
variable {R : Type} {X : Cx} {g : R → Option Value} {σ : St} {res : Option (R × St)} {b L N : Nat} {xs : Nat → Int32} {i : Int32}
set_option maxRecDepth 20000 in
theorem lc_0 (C : Ok X RL cL_law 7 12) (hs : Sc X b L xs) (hi : Inx i L) (hR : Rel σ N) (hN : N ≤ 600) (k : ∀ σ' : St, Rel σ' (N + 1) → V X g 1665 (lvL X b i) [] σ' res) : V X g 224 (lvL X b i) [] σ res := by
  obtain ⟨r, σ1, σ2, e1, e2, hR2⟩ := act_feed (xs (i + 1).toNatClampNeg) (xs (i + 2).toNatClampNeg) (xs (i + 3).toNatClampNeg) (xs (i + 4).toNatClampNeg) (xs (i + 5).toNatClampNeg) σ N hR hN
  unfold lvL
  refine v_aload_n 3 C dL_law_224 rfl ?_
  refine v_aload_n 4 C dL_law_225 rfl ?_
  refine v_iload 0 C dL_law_226 rfl ?_
  refine v_iconst (v := 1) C dL_law_228 (by decide) ?_
  refine v_iadd C dL_law_229 ?_
  refine v_sld C hs hi.2.1 dL_law_230 ?_
  refine v_aload_n 4 C dL_law_231 rfl ?_
  refine v_iload 0 C dL_law_232 rfl ?_
  refine v_iconst (v := 2) C dL_law_234 (by decide) ?_
  refine v_iadd C dL_law_235 ?_
  refine v_sld C hs hi.2.2.1 dL_law_236 ?_
  refine v_aload_n 4 C dL_law_237 rfl ?_
  refine v_iload 0 C dL_law_238 rfl ?_
  refine v_iconst (v := 3) C dL_law_240 (by decide) ?_
  refine v_iadd C dL_law_241 ?_
  refine v_sld C hs hi.2.2.2.1 dL_law_242 ?_
  refine v_aload_n 4 C dL_law_243 rfl ?_
  refine v_iload 0 C dL_law_244 rfl ?_
  refine v_iconst (v := 4) C dL_law_246 (by decide) ?_
  refine v_iadd C dL_law_247 ?_
  refine v_sld C hs hi.2.2.2.2.1 dL_law_248 ?_
  refine v_aload_n 4 C dL_law_249 rfl ?_
  refine v_iload 0 C dL_law_250 rfl ?_
  refine v_iconst (v := 5) C dL_law_252 (by decide) ?_
  refine v_iadd C dL_law_253 ?_
  refine v_sld C hs hi.2.2.2.2.2 dL_law_254 ?_
  refine v_ask (as := [.int (xs (i + 1).toNatClampNeg), .int (xs (i + 2).toNatClampNeg), .int (xs (i + 3).toNatClampNeg), .int (xs (i + 4).toNatClampNeg), .int (xs (i + 5).toNatClampNeg)]) C dL_law_255 lv_L_19 ck_7 (kX7_feed (xs (i + 1).toNatClampNeg) (xs (i + 2).toNatClampNeg) (xs (i + 3).toNatClampNeg) (xs (i + 4).toNatClampNeg) (xs (i + 5).toNatClampNeg) σ) (by decide) rfl (Nat.le_of_ble_eq_true rfl) e1 ?_
  refine v_aload_n 2 C dL_law_258 rfl ?_
  refine v_aload_n 4 C dL_law_259 rfl ?_
  refine v_iload 0 C dL_law_260 rfl ?_
  refine v_iconst (v := 1) C dL_law_262 (by decide) ?_
  refine v_iadd C dL_law_263 ?_
  refine v_sld C hs hi.2.1 dL_law_264 ?_
  refine v_aload_n 4 C dL_law_265 rfl ?_
  refine v_iload 0 C dL_law_266 rfl ?_
  refine v_iconst (v := 2) C dL_law_268 (by decide) ?_
  refine v_iadd C dL_law_269 ?_
  refine v_sld C hs hi.2.2.1 dL_law_270 ?_
  refine v_aload_n 4 C dL_law_271 rfl ?_
  refine v_iload 0 C dL_law_272 rfl ?_
  refine v_iconst (v := 3) C dL_law_274 (by decide) ?_
  refine v_iadd C dL_law_275 ?_
  refine v_sld C hs hi.2.2.2.1 dL_law_276 ?_
  refine v_aload_n 4 C dL_law_277 rfl ?_
  refine v_iload 0 C dL_law_278 rfl ?_
  refine v_iconst (v := 4) C dL_law_280 (by decide) ?_
  refine v_iadd C dL_law_281 ?_
  refine v_sld C hs hi.2.2.2.2.1 dL_law_282 ?_
  refine v_aload_n 4 C dL_law_283 rfl ?_
  refine v_iload 0 C dL_law_284 rfl ?_
  refine v_iconst (v := 5) C dL_law_286 (by decide) ?_
  refine v_iadd C dL_law_287 ?_
  refine v_sld C hs hi.2.2.2.2.2 dL_law_288 ?_
  refine v_ask (as := [.int (xs (i + 1).toNatClampNeg), .int (xs (i + 2).toNatClampNeg), .int (xs (i + 3).toNatClampNeg), .int (xs (i + 4).toNatClampNeg), .int (xs (i + 5).toNatClampNeg)]) C dL_law_289 lv_L_23 ck_8 (kX8_feed (xs (i + 1).toNatClampNeg) (xs (i + 2).toNatClampNeg) (xs (i + 3).toNatClampNeg) (xs (i + 4).toNatClampNeg) (xs (i + 5).toNatClampNeg) σ1) (by decide) rfl (Nat.le_of_ble_eq_true rfl) e2 ?_
  exact v_icmp_eq_b (tgt := 1665) C dL_law_292 (by decide) (fun _ => k σ2 hR2) (fun h => absurd rfl h)
set_option maxRecDepth 20000 in
theorem lc_1 (C : Ok X RL cL_law 7 12) (hs : Sc X b L xs) (hi : Inx i L) (hR : Rel σ N) (hN : N ≤ 600) (k : ∀ σ' : St, Rel σ' (N + 1) → V X g 1665 (lvL X b i) [] σ' res) : V X g 297 (lvL X b i) [] σ res := by
  obtain ⟨r, σ1, σ2, e1, e2, hR2⟩ := act_bus (xs (i + 1).toNatClampNeg) σ N hR hN
  unfold lvL
  refine v_aload_n 3 C dL_law_297 rfl ?_
  refine v_aload_n 4 C dL_law_298 rfl ?_
  refine v_iload 0 C dL_law_299 rfl ?_
  refine v_iconst (v := 1) C dL_law_301 (by decide) ?_
  refine v_iadd C dL_law_302 ?_
  refine v_sld C hs hi.2.1 dL_law_303 ?_
  refine v_ask (as := [.int (xs (i + 1).toNatClampNeg)]) C dL_law_304 lv_L_24 ck_7 (kX7_bus (xs (i + 1).toNatClampNeg) σ) (by decide) rfl (Nat.le_of_ble_eq_true rfl) e1 ?_
  refine v_aload_n 2 C dL_law_307 rfl ?_
  refine v_aload_n 4 C dL_law_308 rfl ?_
  refine v_iload 0 C dL_law_309 rfl ?_
  refine v_iconst (v := 1) C dL_law_311 (by decide) ?_
  refine v_iadd C dL_law_312 ?_
  refine v_sld C hs hi.2.1 dL_law_313 ?_
  refine v_ask (as := [.int (xs (i + 1).toNatClampNeg)]) C dL_law_314 lv_L_27 ck_8 (kX8_bus (xs (i + 1).toNatClampNeg) σ1) (by decide) rfl (Nat.le_of_ble_eq_true rfl) e2 ?_
  exact v_icmp_eq_b (tgt := 1665) C dL_law_317 (by decide) (fun _ => k σ2 hR2) (fun h => absurd rfl h)
set_option maxRecDepth 20000 in
theorem lc_2 (C : Ok X RL cL_law 7 12) (hs : Sc X b L xs) (hi : Inx i L) (hR : Rel σ N) (hN : N ≤ 600) (k : ∀ σ' : St, Rel σ' (N + 1) → V X g 1665 (lvL X b i) [] σ' res) : V X g 322 (lvL X b i) [] σ res := by
  obtain ⟨r, σ1, σ2, e1, e2, hR2⟩ := act_fault σ N hR hN
  unfold lvL
  refine v_aload_n 3 C dL_law_322 rfl ?_
  refine v_ask (as := []) C dL_law_323 lv_L_28 ck_7 (kX7_fault σ) (by decide) rfl (Nat.le_of_ble_eq_true rfl) e1 ?_
  refine v_aload_n 2 C dL_law_326 rfl ?_
  refine v_ask (as := []) C dL_law_327 lv_L_32 ck_8 (kX8_fault σ1) (by decide) rfl (Nat.le_of_ble_eq_true rfl) e2 ?_
  exact v_icmp_eq_b (tgt := 1665) C dL_law_330 (by decide) (fun _ => k σ2 hR2) (fun h => absurd rfl h)
set_option maxRecDepth 20000 in
theorem lc_3 (C : Ok X RL cL_law 7 12) (hs : Sc X b L xs) (hi : Inx i L) (hR : Rel σ N) (hN : N ≤ 600) (k : ∀ σ' : St, Rel σ' (N + 1) → V X g 1665 (lvL X b i) [] σ' res) : V X g 335 (lvL X b i) [] σ res := by
  obtain ⟨r, σ1, σ2, e1, e2, hR2⟩ := act_where σ N hR hN
  unfold lvL
  refine v_aload_n 3 C dL_law_335 rfl ?_
  refine v_ask (as := []) C dL_law_336 lv_L_33 ck_7 (kX7_where σ) (by decide) rfl (Nat.le_of_ble_eq_true rfl) e1 ?_
  refine v_aload_n 2 C dL_law_339 rfl ?_
  refine v_ask (as := []) C dL_law_340 lv_L_36 ck_8 (kX8_where σ1) (by decide) rfl (Nat.le_of_ble_eq_true rfl) e2 ?_
  exact v_icmp_eq_b (tgt := 1665) C dL_law_343 (by decide) (fun _ => k σ2 hR2) (fun h => absurd rfl h)
set_option maxRecDepth 20000 in
theorem lc_4 (C : Ok X RL cL_law 7 12) (hs : Sc X b L xs) (hi : Inx i L) (hR : Rel σ N) (hN : N ≤ 600) (k : ∀ σ' : St, Rel σ' (N + 1) → V X g 1665 (lvL X b i) [] σ' res) : V X g 348 (lvL X b i) [] σ res := by
  obtain ⟨r, σ1, σ2, e1, e2, hR2⟩ := act_about (xs (i + 1).toNatClampNeg) σ N hR hN
  unfold lvL
  refine v_aload_n 3 C dL_law_348 rfl ?_
  refine v_aload_n 4 C dL_law_349 rfl ?_
  refine v_iload 0 C dL_law_350 rfl ?_
  refine v_iconst (v := 1) C dL_law_352 (by decide) ?_
  refine v_iadd C dL_law_353 ?_
  refine v_sld C hs hi.2.1 dL_law_354 ?_
  refine v_ask (as := [.int (xs (i + 1).toNatClampNeg)]) C dL_law_355 lv_L_37 ck_7 (kX7_about (xs (i + 1).toNatClampNeg) σ) (by decide) rfl (Nat.le_of_ble_eq_true rfl) e1 ?_
  refine v_aload_n 2 C dL_law_358 rfl ?_
  refine v_aload_n 4 C dL_law_359 rfl ?_
  refine v_iload 0 C dL_law_360 rfl ?_
  refine v_iconst (v := 1) C dL_law_362 (by decide) ?_
  refine v_iadd C dL_law_363 ?_
  refine v_sld C hs hi.2.1 dL_law_364 ?_
  refine v_ask (as := [.int (xs (i + 1).toNatClampNeg)]) C dL_law_365 lv_L_40 ck_8 (kX8_about (xs (i + 1).toNatClampNeg) σ1) (by decide) rfl (Nat.le_of_ble_eq_true rfl) e2 ?_
  exact v_icmp_eq_b (tgt := 1665) C dL_law_368 (by decide) (fun _ => k σ2 hR2) (fun h => absurd rfl h)
set_option maxRecDepth 20000 in
theorem lc_5 (C : Ok X RL cL_law 7 12) (hs : Sc X b L xs) (hi : Inx i L) (hR : Rel σ N) (hN : N ≤ 600) (k : ∀ σ' : St, Rel σ' (N + 1) → V X g 1665 (lvL X b i) [] σ' res) : V X g 373 (lvL X b i) [] σ res := by
  obtain ⟨r, σ1, σ2, e1, e2, hR2⟩ := act_board (xs (i + 1).toNatClampNeg) (xs (i + 2).toNatClampNeg) σ N hR hN
  unfold lvL
  refine v_aload_n 3 C dL_law_373 rfl ?_
  refine v_aload_n 4 C dL_law_374 rfl ?_
  refine v_iload 0 C dL_law_375 rfl ?_
  refine v_iconst (v := 1) C dL_law_377 (by decide) ?_
  refine v_iadd C dL_law_378 ?_
  refine v_sld C hs hi.2.1 dL_law_379 ?_
  refine v_aload_n 4 C dL_law_380 rfl ?_
  refine v_iload 0 C dL_law_381 rfl ?_
  refine v_iconst (v := 2) C dL_law_383 (by decide) ?_
  refine v_iadd C dL_law_384 ?_
  refine v_sld C hs hi.2.2.1 dL_law_385 ?_
  refine v_ask (as := [.int (xs (i + 1).toNatClampNeg), .int (xs (i + 2).toNatClampNeg)]) C dL_law_386 lv_L_41 ck_7 (kX7_board (xs (i + 1).toNatClampNeg) (xs (i + 2).toNatClampNeg) σ) (by decide) rfl (Nat.le_of_ble_eq_true rfl) e1 ?_
  refine v_aload_n 2 C dL_law_389 rfl ?_
  refine v_aload_n 4 C dL_law_390 rfl ?_
  refine v_iload 0 C dL_law_391 rfl ?_
  refine v_iconst (v := 1) C dL_law_393 (by decide) ?_
  refine v_iadd C dL_law_394 ?_
  refine v_sld C hs hi.2.1 dL_law_395 ?_
  refine v_aload_n 4 C dL_law_396 rfl ?_
  refine v_iload 0 C dL_law_397 rfl ?_
  refine v_iconst (v := 2) C dL_law_399 (by decide) ?_
  refine v_iadd C dL_law_400 ?_
  refine v_sld C hs hi.2.2.1 dL_law_401 ?_
  refine v_ask (as := [.int (xs (i + 1).toNatClampNeg), .int (xs (i + 2).toNatClampNeg)]) C dL_law_402 lv_L_45 ck_8 (kX8_board (xs (i + 1).toNatClampNeg) (xs (i + 2).toNatClampNeg) σ1) (by decide) rfl (Nat.le_of_ble_eq_true rfl) e2 ?_
  exact v_icmp_eq_b (tgt := 1665) C dL_law_405 (by decide) (fun _ => k σ2 hR2) (fun h => absurd rfl h)
set_option maxRecDepth 20000 in
theorem lc_6 (C : Ok X RL cL_law 7 12) (hs : Sc X b L xs) (hi : Inx i L) (hR : Rel σ N) (hN : N ≤ 600) (k : ∀ σ' : St, Rel σ' (N + 1) → V X g 1665 (lvL X b i) [] σ' res) : V X g 410 (lvL X b i) [] σ res := by
  obtain ⟨r, σ1, σ2, e1, e2, hR2⟩ := act_named (xs (i + 1).toNatClampNeg) σ N hR hN
  unfold lvL
  refine v_aload_n 3 C dL_law_410 rfl ?_
  refine v_aload_n 4 C dL_law_411 rfl ?_
  refine v_iload 0 C dL_law_412 rfl ?_
  refine v_iconst (v := 1) C dL_law_414 (by decide) ?_
  refine v_iadd C dL_law_415 ?_
  refine v_sld C hs hi.2.1 dL_law_416 ?_
  refine v_ask (as := [.int (xs (i + 1).toNatClampNeg)]) C dL_law_417 lv_L_46 ck_7 (kX7_named (xs (i + 1).toNatClampNeg) σ) (by decide) rfl (Nat.le_of_ble_eq_true rfl) e1 ?_
  refine v_aload_n 2 C dL_law_420 rfl ?_
  refine v_aload_n 4 C dL_law_421 rfl ?_
  refine v_iload 0 C dL_law_422 rfl ?_
  refine v_iconst (v := 1) C dL_law_424 (by decide) ?_
  refine v_iadd C dL_law_425 ?_
  refine v_sld C hs hi.2.1 dL_law_426 ?_
  refine v_ask (as := [.int (xs (i + 1).toNatClampNeg)]) C dL_law_427 lv_L_49 ck_8 (kX8_named (xs (i + 1).toNatClampNeg) σ1) (by decide) rfl (Nat.le_of_ble_eq_true rfl) e2 ?_
  exact v_icmp_eq_b (tgt := 1665) C dL_law_430 (by decide) (fun _ => k σ2 hR2) (fun h => absurd rfl h)
set_option maxRecDepth 20000 in
theorem lc_7 (C : Ok X RL cL_law 7 12) (hs : Sc X b L xs) (hi : Inx i L) (hR : Rel σ N) (hN : N ≤ 600) (k : ∀ σ' : St, Rel σ' (N + 1) → V X g 1665 (lvL X b i) [] σ' res) : V X g 435 (lvL X b i) [] σ res := by
  obtain ⟨r, σ1, σ2, e1, e2, hR2⟩ := act_word (xs (i + 1).toNatClampNeg) (xs (i + 2).toNatClampNeg) σ N hR hN
  unfold lvL
  refine v_aload_n 3 C dL_law_435 rfl ?_
  refine v_aload_n 4 C dL_law_436 rfl ?_
  refine v_iload 0 C dL_law_437 rfl ?_
  refine v_iconst (v := 1) C dL_law_439 (by decide) ?_
  refine v_iadd C dL_law_440 ?_
  refine v_sld C hs hi.2.1 dL_law_441 ?_
  refine v_aload_n 4 C dL_law_442 rfl ?_
  refine v_iload 0 C dL_law_443 rfl ?_
  refine v_iconst (v := 2) C dL_law_445 (by decide) ?_
  refine v_iadd C dL_law_446 ?_
  refine v_sld C hs hi.2.2.1 dL_law_447 ?_
  refine v_ask (as := [.int (xs (i + 1).toNatClampNeg), .int (xs (i + 2).toNatClampNeg)]) C dL_law_448 lv_L_50 ck_7 (kX7_word (xs (i + 1).toNatClampNeg) (xs (i + 2).toNatClampNeg) σ) (by decide) rfl (Nat.le_of_ble_eq_true rfl) e1 ?_
  refine v_aload_n 2 C dL_law_451 rfl ?_
  refine v_aload_n 4 C dL_law_452 rfl ?_
  refine v_iload 0 C dL_law_453 rfl ?_
  refine v_iconst (v := 1) C dL_law_455 (by decide) ?_
  refine v_iadd C dL_law_456 ?_
  refine v_sld C hs hi.2.1 dL_law_457 ?_
  refine v_aload_n 4 C dL_law_458 rfl ?_
  refine v_iload 0 C dL_law_459 rfl ?_
  refine v_iconst (v := 2) C dL_law_461 (by decide) ?_
  refine v_iadd C dL_law_462 ?_
  refine v_sld C hs hi.2.2.1 dL_law_463 ?_
  refine v_ask (as := [.int (xs (i + 1).toNatClampNeg), .int (xs (i + 2).toNatClampNeg)]) C dL_law_464 lv_L_53 ck_8 (kX8_word (xs (i + 1).toNatClampNeg) (xs (i + 2).toNatClampNeg) σ1) (by decide) rfl (Nat.le_of_ble_eq_true rfl) e2 ?_
  exact v_icmp_eq_b (tgt := 1665) C dL_law_467 (by decide) (fun _ => k σ2 hR2) (fun h => absurd rfl h)
set_option maxRecDepth 20000 in
theorem lc_8 (C : Ok X RL cL_law 7 12) (hs : Sc X b L xs) (hi : Inx i L) (hR : Rel σ N) (hN : N ≤ 600) (k : ∀ σ' : St, Rel σ' (N + 1) → V X g 1665 (lvL X b i) [] σ' res) : V X g 472 (lvL X b i) [] σ res := by
  obtain ⟨r, σ1, σ2, e1, e2, hR2⟩ := act_drives (xs (i + 1).toNatClampNeg) (xs (i + 2).toNatClampNeg) (xs (i + 3).toNatClampNeg) (xs (i + 4).toNatClampNeg) σ N hR hN
  unfold lvL
  refine v_aload_n 3 C dL_law_472 rfl ?_
  refine v_aload_n 4 C dL_law_473 rfl ?_
  refine v_iload 0 C dL_law_474 rfl ?_
  refine v_iconst (v := 1) C dL_law_476 (by decide) ?_
  refine v_iadd C dL_law_477 ?_
  refine v_sld C hs hi.2.1 dL_law_478 ?_
  refine v_aload_n 4 C dL_law_479 rfl ?_
  refine v_iload 0 C dL_law_480 rfl ?_
  refine v_iconst (v := 2) C dL_law_482 (by decide) ?_
  refine v_iadd C dL_law_483 ?_
  refine v_sld C hs hi.2.2.1 dL_law_484 ?_
  refine v_aload_n 4 C dL_law_485 rfl ?_
  refine v_iload 0 C dL_law_486 rfl ?_
  refine v_iconst (v := 3) C dL_law_488 (by decide) ?_
  refine v_iadd C dL_law_489 ?_
  refine v_sld C hs hi.2.2.2.1 dL_law_490 ?_
  refine v_aload_n 4 C dL_law_491 rfl ?_
  refine v_iload 0 C dL_law_492 rfl ?_
  refine v_iconst (v := 4) C dL_law_494 (by decide) ?_
  refine v_iadd C dL_law_495 ?_
  refine v_sld C hs hi.2.2.2.2.1 dL_law_496 ?_
  refine v_ask (as := [.int (xs (i + 1).toNatClampNeg), .int (xs (i + 2).toNatClampNeg), .int (xs (i + 3).toNatClampNeg), .int (xs (i + 4).toNatClampNeg)]) C dL_law_497 lv_L_54 ck_7 (kX7_drives (xs (i + 1).toNatClampNeg) (xs (i + 2).toNatClampNeg) (xs (i + 3).toNatClampNeg) (xs (i + 4).toNatClampNeg) σ) (by decide) rfl (Nat.le_of_ble_eq_true rfl) e1 ?_
  refine v_aload_n 2 C dL_law_500 rfl ?_
  refine v_aload_n 4 C dL_law_501 rfl ?_
  refine v_iload 0 C dL_law_502 rfl ?_
  refine v_iconst (v := 1) C dL_law_504 (by decide) ?_
  refine v_iadd C dL_law_505 ?_
  refine v_sld C hs hi.2.1 dL_law_506 ?_
  refine v_aload_n 4 C dL_law_507 rfl ?_
  refine v_iload 0 C dL_law_508 rfl ?_
  refine v_iconst (v := 2) C dL_law_510 (by decide) ?_
  refine v_iadd C dL_law_511 ?_
  refine v_sld C hs hi.2.2.1 dL_law_512 ?_
  refine v_aload_n 4 C dL_law_513 rfl ?_
  refine v_iload 0 C dL_law_514 rfl ?_
  refine v_iconst (v := 3) C dL_law_516 (by decide) ?_
  refine v_iadd C dL_law_517 ?_
  refine v_sld C hs hi.2.2.2.1 dL_law_518 ?_
  refine v_aload_n 4 C dL_law_519 rfl ?_
  refine v_iload 0 C dL_law_520 rfl ?_
  refine v_iconst (v := 4) C dL_law_522 (by decide) ?_
  refine v_iadd C dL_law_523 ?_
  refine v_sld C hs hi.2.2.2.2.1 dL_law_524 ?_
  refine v_ask (as := [.int (xs (i + 1).toNatClampNeg), .int (xs (i + 2).toNatClampNeg), .int (xs (i + 3).toNatClampNeg), .int (xs (i + 4).toNatClampNeg)]) C dL_law_525 lv_L_58 ck_8 (kX8_drives (xs (i + 1).toNatClampNeg) (xs (i + 2).toNatClampNeg) (xs (i + 3).toNatClampNeg) (xs (i + 4).toNatClampNeg) σ1) (by decide) rfl (Nat.le_of_ble_eq_true rfl) e2 ?_
  exact v_icmp_eq_b (tgt := 1665) C dL_law_528 (by decide) (fun _ => k σ2 hR2) (fun h => absurd rfl h)
set_option maxRecDepth 20000 in
theorem lc_9 (C : Ok X RL cL_law 7 12) (hs : Sc X b L xs) (hi : Inx i L) (hR : Rel σ N) (hN : N ≤ 600) (k : ∀ σ' : St, Rel σ' (N + 1) → V X g 1665 (lvL X b i) [] σ' res) : V X g 533 (lvL X b i) [] σ res := by
  obtain ⟨r, σ1, σ2, e1, e2, hR2⟩ := act_seen (xs (i + 1).toNatClampNeg) (xs (i + 2).toNatClampNeg) (xs (i + 3).toNatClampNeg) (xs (i + 4).toNatClampNeg) σ N hR hN
  unfold lvL
  refine v_aload_n 3 C dL_law_533 rfl ?_
  refine v_aload_n 4 C dL_law_534 rfl ?_
  refine v_iload 0 C dL_law_535 rfl ?_
  refine v_iconst (v := 1) C dL_law_537 (by decide) ?_
  refine v_iadd C dL_law_538 ?_
  refine v_sld C hs hi.2.1 dL_law_539 ?_
  refine v_aload_n 4 C dL_law_540 rfl ?_
  refine v_iload 0 C dL_law_541 rfl ?_
  refine v_iconst (v := 2) C dL_law_543 (by decide) ?_
  refine v_iadd C dL_law_544 ?_
  refine v_sld C hs hi.2.2.1 dL_law_545 ?_
  refine v_aload_n 4 C dL_law_546 rfl ?_
  refine v_iload 0 C dL_law_547 rfl ?_
  refine v_iconst (v := 3) C dL_law_549 (by decide) ?_
  refine v_iadd C dL_law_550 ?_
  refine v_sld C hs hi.2.2.2.1 dL_law_551 ?_
  refine v_aload_n 4 C dL_law_552 rfl ?_
  refine v_iload 0 C dL_law_553 rfl ?_
  refine v_iconst (v := 4) C dL_law_555 (by decide) ?_
  refine v_iadd C dL_law_556 ?_
  refine v_sld C hs hi.2.2.2.2.1 dL_law_557 ?_
  refine v_ask (as := [.int (xs (i + 1).toNatClampNeg), .int (xs (i + 2).toNatClampNeg), .int (xs (i + 3).toNatClampNeg), .int (xs (i + 4).toNatClampNeg)]) C dL_law_558 lv_L_59 ck_7 (kX7_seen (xs (i + 1).toNatClampNeg) (xs (i + 2).toNatClampNeg) (xs (i + 3).toNatClampNeg) (xs (i + 4).toNatClampNeg) σ) (by decide) rfl (Nat.le_of_ble_eq_true rfl) e1 ?_
  refine v_aload_n 2 C dL_law_561 rfl ?_
  refine v_aload_n 4 C dL_law_562 rfl ?_
  refine v_iload 0 C dL_law_563 rfl ?_
  refine v_iconst (v := 1) C dL_law_565 (by decide) ?_
  refine v_iadd C dL_law_566 ?_
  refine v_sld C hs hi.2.1 dL_law_567 ?_
  refine v_aload_n 4 C dL_law_568 rfl ?_
  refine v_iload 0 C dL_law_569 rfl ?_
  refine v_iconst (v := 2) C dL_law_571 (by decide) ?_
  refine v_iadd C dL_law_572 ?_
  refine v_sld C hs hi.2.2.1 dL_law_573 ?_
  refine v_aload_n 4 C dL_law_574 rfl ?_
  refine v_iload 0 C dL_law_575 rfl ?_
  refine v_iconst (v := 3) C dL_law_577 (by decide) ?_
  refine v_iadd C dL_law_578 ?_
  refine v_sld C hs hi.2.2.2.1 dL_law_579 ?_
  refine v_aload_n 4 C dL_law_580 rfl ?_
  refine v_iload 0 C dL_law_581 rfl ?_
  refine v_iconst (v := 4) C dL_law_583 (by decide) ?_
  refine v_iadd C dL_law_584 ?_
  refine v_sld C hs hi.2.2.2.2.1 dL_law_585 ?_
  refine v_ask (as := [.int (xs (i + 1).toNatClampNeg), .int (xs (i + 2).toNatClampNeg), .int (xs (i + 3).toNatClampNeg), .int (xs (i + 4).toNatClampNeg)]) C dL_law_586 lv_L_62 ck_8 (kX8_seen (xs (i + 1).toNatClampNeg) (xs (i + 2).toNatClampNeg) (xs (i + 3).toNatClampNeg) (xs (i + 4).toNatClampNeg) σ1) (by decide) rfl (Nat.le_of_ble_eq_true rfl) e2 ?_
  exact v_icmp_eq_b (tgt := 1665) C dL_law_589 (by decide) (fun _ => k σ2 hR2) (fun h => absurd rfl h)
set_option maxRecDepth 20000 in
theorem lc_10 (C : Ok X RL cL_law 7 12) (hs : Sc X b L xs) (hi : Inx i L) (hR : Rel σ N) (hN : N ≤ 600) (k : ∀ σ' : St, Rel σ' (N + 1) → V X g 1665 (lvL X b i) [] σ' res) : V X g 594 (lvL X b i) [] σ res := by
  obtain ⟨r, σ1, σ2, e1, e2, hR2⟩ := act_taken (xs (i + 1).toNatClampNeg) (xs (i + 2).toNatClampNeg) (xs (i + 3).toNatClampNeg) (xs (i + 4).toNatClampNeg) σ N hR hN
  unfold lvL
  refine v_aload_n 3 C dL_law_594 rfl ?_
  refine v_aload_n 4 C dL_law_595 rfl ?_
  refine v_iload 0 C dL_law_596 rfl ?_
  refine v_iconst (v := 1) C dL_law_598 (by decide) ?_
  refine v_iadd C dL_law_599 ?_
  refine v_sld C hs hi.2.1 dL_law_600 ?_
  refine v_aload_n 4 C dL_law_601 rfl ?_
  refine v_iload 0 C dL_law_602 rfl ?_
  refine v_iconst (v := 2) C dL_law_604 (by decide) ?_
  refine v_iadd C dL_law_605 ?_
  refine v_sld C hs hi.2.2.1 dL_law_606 ?_
  refine v_aload_n 4 C dL_law_607 rfl ?_
  refine v_iload 0 C dL_law_608 rfl ?_
  refine v_iconst (v := 3) C dL_law_610 (by decide) ?_
  refine v_iadd C dL_law_611 ?_
  refine v_sld C hs hi.2.2.2.1 dL_law_612 ?_
  refine v_aload_n 4 C dL_law_613 rfl ?_
  refine v_iload 0 C dL_law_614 rfl ?_
  refine v_iconst (v := 4) C dL_law_616 (by decide) ?_
  refine v_iadd C dL_law_617 ?_
  refine v_sld C hs hi.2.2.2.2.1 dL_law_618 ?_
  refine v_ask (as := [.int (xs (i + 1).toNatClampNeg), .int (xs (i + 2).toNatClampNeg), .int (xs (i + 3).toNatClampNeg), .int (xs (i + 4).toNatClampNeg)]) C dL_law_619 lv_L_63 ck_7 (kX7_taken (xs (i + 1).toNatClampNeg) (xs (i + 2).toNatClampNeg) (xs (i + 3).toNatClampNeg) (xs (i + 4).toNatClampNeg) σ) (by decide) rfl (Nat.le_of_ble_eq_true rfl) e1 ?_
  refine v_aload_n 2 C dL_law_622 rfl ?_
  refine v_aload_n 4 C dL_law_623 rfl ?_
  refine v_iload 0 C dL_law_624 rfl ?_
  refine v_iconst (v := 1) C dL_law_626 (by decide) ?_
  refine v_iadd C dL_law_627 ?_
  refine v_sld C hs hi.2.1 dL_law_628 ?_
  refine v_aload_n 4 C dL_law_629 rfl ?_
  refine v_iload 0 C dL_law_630 rfl ?_
  refine v_iconst (v := 2) C dL_law_632 (by decide) ?_
  refine v_iadd C dL_law_633 ?_
  refine v_sld C hs hi.2.2.1 dL_law_634 ?_
  refine v_aload_n 4 C dL_law_635 rfl ?_
  refine v_iload 0 C dL_law_636 rfl ?_
  refine v_iconst (v := 3) C dL_law_638 (by decide) ?_
  refine v_iadd C dL_law_639 ?_
  refine v_sld C hs hi.2.2.2.1 dL_law_640 ?_
  refine v_aload_n 4 C dL_law_641 rfl ?_
  refine v_iload 0 C dL_law_642 rfl ?_
  refine v_iconst (v := 4) C dL_law_644 (by decide) ?_
  refine v_iadd C dL_law_645 ?_
  refine v_sld C hs hi.2.2.2.2.1 dL_law_646 ?_
  refine v_ask (as := [.int (xs (i + 1).toNatClampNeg), .int (xs (i + 2).toNatClampNeg), .int (xs (i + 3).toNatClampNeg), .int (xs (i + 4).toNatClampNeg)]) C dL_law_647 lv_L_66 ck_8 (kX8_taken (xs (i + 1).toNatClampNeg) (xs (i + 2).toNatClampNeg) (xs (i + 3).toNatClampNeg) (xs (i + 4).toNatClampNeg) σ1) (by decide) rfl (Nat.le_of_ble_eq_true rfl) e2 ?_
  exact v_icmp_eq_b (tgt := 1665) C dL_law_650 (by decide) (fun _ => k σ2 hR2) (fun h => absurd rfl h)
set_option maxRecDepth 20000 in
theorem lc_11 (C : Ok X RL cL_law 7 12) (hs : Sc X b L xs) (hi : Inx i L) (hR : Rel σ N) (hN : N ≤ 600) (k : ∀ σ' : St, Rel σ' (N + 1) → V X g 1665 (lvL X b i) [] σ' res) : V X g 655 (lvL X b i) [] σ res := by
  obtain ⟨r, σ1, σ2, e1, e2, hR2⟩ := act_withdrawn (xs (i + 1).toNatClampNeg) (xs (i + 2).toNatClampNeg) (xs (i + 3).toNatClampNeg) (xs (i + 4).toNatClampNeg) σ N hR hN
  unfold lvL
  refine v_aload_n 3 C dL_law_655 rfl ?_
  refine v_aload_n 4 C dL_law_656 rfl ?_
  refine v_iload 0 C dL_law_657 rfl ?_
  refine v_iconst (v := 1) C dL_law_659 (by decide) ?_
  refine v_iadd C dL_law_660 ?_
  refine v_sld C hs hi.2.1 dL_law_661 ?_
  refine v_aload_n 4 C dL_law_662 rfl ?_
  refine v_iload 0 C dL_law_663 rfl ?_
  refine v_iconst (v := 2) C dL_law_665 (by decide) ?_
  refine v_iadd C dL_law_666 ?_
  refine v_sld C hs hi.2.2.1 dL_law_667 ?_
  refine v_aload_n 4 C dL_law_668 rfl ?_
  refine v_iload 0 C dL_law_669 rfl ?_
  refine v_iconst (v := 3) C dL_law_671 (by decide) ?_
  refine v_iadd C dL_law_672 ?_
  refine v_sld C hs hi.2.2.2.1 dL_law_673 ?_
  refine v_aload_n 4 C dL_law_674 rfl ?_
  refine v_iload 0 C dL_law_675 rfl ?_
  refine v_iconst (v := 4) C dL_law_677 (by decide) ?_
  refine v_iadd C dL_law_678 ?_
  refine v_sld C hs hi.2.2.2.2.1 dL_law_679 ?_
  refine v_ask (as := [.int (xs (i + 1).toNatClampNeg), .int (xs (i + 2).toNatClampNeg), .int (xs (i + 3).toNatClampNeg), .int (xs (i + 4).toNatClampNeg)]) C dL_law_680 lv_L_67 ck_7 (kX7_withdrawn (xs (i + 1).toNatClampNeg) (xs (i + 2).toNatClampNeg) (xs (i + 3).toNatClampNeg) (xs (i + 4).toNatClampNeg) σ) (by decide) rfl (Nat.le_of_ble_eq_true rfl) e1 ?_
  refine v_aload_n 2 C dL_law_683 rfl ?_
  refine v_aload_n 4 C dL_law_684 rfl ?_
  refine v_iload 0 C dL_law_685 rfl ?_
  refine v_iconst (v := 1) C dL_law_687 (by decide) ?_
  refine v_iadd C dL_law_688 ?_
  refine v_sld C hs hi.2.1 dL_law_689 ?_
  refine v_aload_n 4 C dL_law_690 rfl ?_
  refine v_iload 0 C dL_law_691 rfl ?_
  refine v_iconst (v := 2) C dL_law_693 (by decide) ?_
  refine v_iadd C dL_law_694 ?_
  refine v_sld C hs hi.2.2.1 dL_law_695 ?_
  refine v_aload_n 4 C dL_law_696 rfl ?_
  refine v_iload 0 C dL_law_697 rfl ?_
  refine v_iconst (v := 3) C dL_law_699 (by decide) ?_
  refine v_iadd C dL_law_700 ?_
  refine v_sld C hs hi.2.2.2.1 dL_law_701 ?_
  refine v_aload_n 4 C dL_law_702 rfl ?_
  refine v_iload 0 C dL_law_703 rfl ?_
  refine v_iconst (v := 4) C dL_law_705 (by decide) ?_
  refine v_iadd C dL_law_706 ?_
  refine v_sld C hs hi.2.2.2.2.1 dL_law_707 ?_
  refine v_ask (as := [.int (xs (i + 1).toNatClampNeg), .int (xs (i + 2).toNatClampNeg), .int (xs (i + 3).toNatClampNeg), .int (xs (i + 4).toNatClampNeg)]) C dL_law_708 lv_L_70 ck_8 (kX8_withdrawn (xs (i + 1).toNatClampNeg) (xs (i + 2).toNatClampNeg) (xs (i + 3).toNatClampNeg) (xs (i + 4).toNatClampNeg) σ1) (by decide) rfl (Nat.le_of_ble_eq_true rfl) e2 ?_
  exact v_icmp_eq_b (tgt := 1665) C dL_law_711 (by decide) (fun _ => k σ2 hR2) (fun h => absurd rfl h)
set_option maxRecDepth 20000 in
theorem lc_12 (C : Ok X RL cL_law 7 12) (hs : Sc X b L xs) (hi : Inx i L) (hR : Rel σ N) (hN : N ≤ 600) (k : ∀ σ' : St, Rel σ' (N + 1) → V X g 1665 (lvL X b i) [] σ' res) : V X g 716 (lvL X b i) [] σ res := by
  obtain ⟨r, σ1, σ2, e1, e2, hR2⟩ := act_winners (xs (i + 1).toNatClampNeg) (xs (i + 2).toNatClampNeg) (xs (i + 3).toNatClampNeg) σ N hR hN
  unfold lvL
  refine v_aload_n 3 C dL_law_716 rfl ?_
  refine v_aload_n 4 C dL_law_717 rfl ?_
  refine v_iload 0 C dL_law_718 rfl ?_
  refine v_iconst (v := 1) C dL_law_720 (by decide) ?_
  refine v_iadd C dL_law_721 ?_
  refine v_sld C hs hi.2.1 dL_law_722 ?_
  refine v_aload_n 4 C dL_law_723 rfl ?_
  refine v_iload 0 C dL_law_724 rfl ?_
  refine v_iconst (v := 2) C dL_law_726 (by decide) ?_
  refine v_iadd C dL_law_727 ?_
  refine v_sld C hs hi.2.2.1 dL_law_728 ?_
  refine v_aload_n 4 C dL_law_729 rfl ?_
  refine v_iload 0 C dL_law_730 rfl ?_
  refine v_iconst (v := 3) C dL_law_732 (by decide) ?_
  refine v_iadd C dL_law_733 ?_
  refine v_sld C hs hi.2.2.2.1 dL_law_734 ?_
  refine v_ask (as := [.int (xs (i + 1).toNatClampNeg), .int (xs (i + 2).toNatClampNeg), .int (xs (i + 3).toNatClampNeg)]) C dL_law_735 lv_L_71 ck_7 (kX7_winners (xs (i + 1).toNatClampNeg) (xs (i + 2).toNatClampNeg) (xs (i + 3).toNatClampNeg) σ) (by decide) rfl (Nat.le_of_ble_eq_true rfl) e1 ?_
  refine v_aload_n 2 C dL_law_738 rfl ?_
  refine v_aload_n 4 C dL_law_739 rfl ?_
  refine v_iload 0 C dL_law_740 rfl ?_
  refine v_iconst (v := 1) C dL_law_742 (by decide) ?_
  refine v_iadd C dL_law_743 ?_
  refine v_sld C hs hi.2.1 dL_law_744 ?_
  refine v_aload_n 4 C dL_law_745 rfl ?_
  refine v_iload 0 C dL_law_746 rfl ?_
  refine v_iconst (v := 2) C dL_law_748 (by decide) ?_
  refine v_iadd C dL_law_749 ?_
  refine v_sld C hs hi.2.2.1 dL_law_750 ?_
  refine v_aload_n 4 C dL_law_751 rfl ?_
  refine v_iload 0 C dL_law_752 rfl ?_
  refine v_iconst (v := 3) C dL_law_754 (by decide) ?_
  refine v_iadd C dL_law_755 ?_
  refine v_sld C hs hi.2.2.2.1 dL_law_756 ?_
  refine v_ask (as := [.int (xs (i + 1).toNatClampNeg), .int (xs (i + 2).toNatClampNeg), .int (xs (i + 3).toNatClampNeg)]) C dL_law_757 lv_L_75 ck_8 (kX8_winners (xs (i + 1).toNatClampNeg) (xs (i + 2).toNatClampNeg) (xs (i + 3).toNatClampNeg) σ1) (by decide) rfl (Nat.le_of_ble_eq_true rfl) e2 ?_
  exact v_icmp_eq_b (tgt := 1665) C dL_law_760 (by decide) (fun _ => k σ2 hR2) (fun h => absurd rfl h)
set_option maxRecDepth 20000 in
theorem lc_13 (C : Ok X RL cL_law 7 12) (hs : Sc X b L xs) (hi : Inx i L) (hR : Rel σ N) (hN : N ≤ 600) (k : ∀ σ' : St, Rel σ' (N + 1) → V X g 1665 (lvL X b i) [] σ' res) : V X g 765 (lvL X b i) [] σ res := by
  obtain ⟨r, σ1, σ2, e1, e2, hR2⟩ := act_settles (xs (i + 1).toNatClampNeg) (xs (i + 2).toNatClampNeg) σ N hR hN
  unfold lvL
  refine v_aload_n 3 C dL_law_765 rfl ?_
  refine v_aload_n 4 C dL_law_766 rfl ?_
  refine v_iload 0 C dL_law_767 rfl ?_
  refine v_iconst (v := 1) C dL_law_769 (by decide) ?_
  refine v_iadd C dL_law_770 ?_
  refine v_sld C hs hi.2.1 dL_law_771 ?_
  refine v_aload_n 4 C dL_law_772 rfl ?_
  refine v_iload 0 C dL_law_773 rfl ?_
  refine v_iconst (v := 2) C dL_law_775 (by decide) ?_
  refine v_iadd C dL_law_776 ?_
  refine v_sld C hs hi.2.2.1 dL_law_777 ?_
  refine v_ask (as := [.int (xs (i + 1).toNatClampNeg), .int (xs (i + 2).toNatClampNeg)]) C dL_law_778 lv_L_76 ck_7 (kX7_settles (xs (i + 1).toNatClampNeg) (xs (i + 2).toNatClampNeg) σ) (by decide) rfl (Nat.le_of_ble_eq_true rfl) e1 ?_
  refine v_aload_n 2 C dL_law_781 rfl ?_
  refine v_aload_n 4 C dL_law_782 rfl ?_
  refine v_iload 0 C dL_law_783 rfl ?_
  refine v_iconst (v := 1) C dL_law_785 (by decide) ?_
  refine v_iadd C dL_law_786 ?_
  refine v_sld C hs hi.2.1 dL_law_787 ?_
  refine v_aload_n 4 C dL_law_788 rfl ?_
  refine v_iload 0 C dL_law_789 rfl ?_
  refine v_iconst (v := 2) C dL_law_791 (by decide) ?_
  refine v_iadd C dL_law_792 ?_
  refine v_sld C hs hi.2.2.1 dL_law_793 ?_
  refine v_ask (as := [.int (xs (i + 1).toNatClampNeg), .int (xs (i + 2).toNatClampNeg)]) C dL_law_794 lv_L_79 ck_8 (kX8_settles (xs (i + 1).toNatClampNeg) (xs (i + 2).toNatClampNeg) σ1) (by decide) rfl (Nat.le_of_ble_eq_true rfl) e2 ?_
  exact v_icmp_eq_b (tgt := 1665) C dL_law_797 (by decide) (fun _ => k σ2 hR2) (fun h => absurd rfl h)
set_option maxRecDepth 20000 in
theorem lc_14 (C : Ok X RL cL_law 7 12) (hs : Sc X b L xs) (hi : Inx i L) (hR : Rel σ N) (hN : N ≤ 600) (k : ∀ σ' : St, Rel σ' (N + 1) → V X g 1665 (lvL X b i) [] σ' res) : V X g 802 (lvL X b i) [] σ res := by
  obtain ⟨r, σ1, σ2, e1, e2, hR2⟩ := act_sure (xs (i + 1).toNatClampNeg) (xs (i + 2).toNatClampNeg) σ N hR hN
  unfold lvL
  refine v_aload_n 3 C dL_law_802 rfl ?_
  refine v_aload_n 4 C dL_law_803 rfl ?_
  refine v_iload 0 C dL_law_804 rfl ?_
  refine v_iconst (v := 1) C dL_law_806 (by decide) ?_
  refine v_iadd C dL_law_807 ?_
  refine v_sld C hs hi.2.1 dL_law_808 ?_
  refine v_aload_n 4 C dL_law_809 rfl ?_
  refine v_iload 0 C dL_law_810 rfl ?_
  refine v_iconst (v := 2) C dL_law_812 (by decide) ?_
  refine v_iadd C dL_law_813 ?_
  refine v_sld C hs hi.2.2.1 dL_law_814 ?_
  refine v_ask (as := [.int (xs (i + 1).toNatClampNeg), .int (xs (i + 2).toNatClampNeg)]) C dL_law_815 lv_L_80 ck_7 (kX7_sure (xs (i + 1).toNatClampNeg) (xs (i + 2).toNatClampNeg) σ) (by decide) rfl (Nat.le_of_ble_eq_true rfl) e1 ?_
  refine v_aload_n 2 C dL_law_818 rfl ?_
  refine v_aload_n 4 C dL_law_819 rfl ?_
  refine v_iload 0 C dL_law_820 rfl ?_
  refine v_iconst (v := 1) C dL_law_822 (by decide) ?_
  refine v_iadd C dL_law_823 ?_
  refine v_sld C hs hi.2.1 dL_law_824 ?_
  refine v_aload_n 4 C dL_law_825 rfl ?_
  refine v_iload 0 C dL_law_826 rfl ?_
  refine v_iconst (v := 2) C dL_law_828 (by decide) ?_
  refine v_iadd C dL_law_829 ?_
  refine v_sld C hs hi.2.2.1 dL_law_830 ?_
  refine v_ask (as := [.int (xs (i + 1).toNatClampNeg), .int (xs (i + 2).toNatClampNeg)]) C dL_law_831 lv_L_83 ck_8 (kX8_sure (xs (i + 1).toNatClampNeg) (xs (i + 2).toNatClampNeg) σ1) (by decide) rfl (Nat.le_of_ble_eq_true rfl) e2 ?_
  exact v_icmp_eq_b (tgt := 1665) C dL_law_834 (by decide) (fun _ => k σ2 hR2) (fun h => absurd rfl h)
set_option maxRecDepth 20000 in
theorem lc_15 (C : Ok X RL cL_law 7 12) (hs : Sc X b L xs) (hi : Inx i L) (hR : Rel σ N) (hN : N ≤ 600) (k : ∀ σ' : St, Rel σ' (N + 1) → V X g 1665 (lvL X b i) [] σ' res) : V X g 839 (lvL X b i) [] σ res := by
  obtain ⟨r, σ1, σ2, e1, e2, hR2⟩ := act_right (xs (i + 1).toNatClampNeg) (xs (i + 2).toNatClampNeg) σ N hR hN
  unfold lvL
  refine v_aload_n 3 C dL_law_839 rfl ?_
  refine v_aload_n 4 C dL_law_840 rfl ?_
  refine v_iload 0 C dL_law_841 rfl ?_
  refine v_iconst (v := 1) C dL_law_843 (by decide) ?_
  refine v_iadd C dL_law_844 ?_
  refine v_sld C hs hi.2.1 dL_law_845 ?_
  refine v_aload_n 4 C dL_law_846 rfl ?_
  refine v_iload 0 C dL_law_847 rfl ?_
  refine v_iconst (v := 2) C dL_law_849 (by decide) ?_
  refine v_iadd C dL_law_850 ?_
  refine v_sld C hs hi.2.2.1 dL_law_851 ?_
  refine v_ask (as := [.int (xs (i + 1).toNatClampNeg), .int (xs (i + 2).toNatClampNeg)]) C dL_law_852 lv_L_84 ck_7 (kX7_right (xs (i + 1).toNatClampNeg) (xs (i + 2).toNatClampNeg) σ) (by decide) rfl (Nat.le_of_ble_eq_true rfl) e1 ?_
  refine v_aload_n 2 C dL_law_855 rfl ?_
  refine v_aload_n 4 C dL_law_856 rfl ?_
  refine v_iload 0 C dL_law_857 rfl ?_
  refine v_iconst (v := 1) C dL_law_859 (by decide) ?_
  refine v_iadd C dL_law_860 ?_
  refine v_sld C hs hi.2.1 dL_law_861 ?_
  refine v_aload_n 4 C dL_law_862 rfl ?_
  refine v_iload 0 C dL_law_863 rfl ?_
  refine v_iconst (v := 2) C dL_law_865 (by decide) ?_
  refine v_iadd C dL_law_866 ?_
  refine v_sld C hs hi.2.2.1 dL_law_867 ?_
  refine v_ask (as := [.int (xs (i + 1).toNatClampNeg), .int (xs (i + 2).toNatClampNeg)]) C dL_law_868 lv_L_87 ck_8 (kX8_right (xs (i + 1).toNatClampNeg) (xs (i + 2).toNatClampNeg) σ1) (by decide) rfl (Nat.le_of_ble_eq_true rfl) e2 ?_
  exact v_icmp_eq_b (tgt := 1665) C dL_law_871 (by decide) (fun _ => k σ2 hR2) (fun h => absurd rfl h)
set_option maxRecDepth 20000 in
theorem lc_16 (C : Ok X RL cL_law 7 12) (hs : Sc X b L xs) (hi : Inx i L) (hR : Rel σ N) (hN : N ≤ 600) (k : ∀ σ' : St, Rel σ' (N + 1) → V X g 1665 (lvL X b i) [] σ' res) : V X g 876 (lvL X b i) [] σ res := by
  obtain ⟨r, σ1, σ2, e1, e2, hR2⟩ := act_dips (xs (i + 1).toNatClampNeg) (xs (i + 2).toNatClampNeg) σ N hR hN
  unfold lvL
  refine v_aload_n 3 C dL_law_876 rfl ?_
  refine v_aload_n 4 C dL_law_877 rfl ?_
  refine v_iload 0 C dL_law_878 rfl ?_
  refine v_iconst (v := 1) C dL_law_880 (by decide) ?_
  refine v_iadd C dL_law_881 ?_
  refine v_sld C hs hi.2.1 dL_law_882 ?_
  refine v_aload_n 4 C dL_law_883 rfl ?_
  refine v_iload 0 C dL_law_884 rfl ?_
  refine v_iconst (v := 2) C dL_law_886 (by decide) ?_
  refine v_iadd C dL_law_887 ?_
  refine v_sld C hs hi.2.2.1 dL_law_888 ?_
  refine v_ask (as := [.int (xs (i + 1).toNatClampNeg), .int (xs (i + 2).toNatClampNeg)]) C dL_law_889 lv_L_88 ck_7 (kX7_dips (xs (i + 1).toNatClampNeg) (xs (i + 2).toNatClampNeg) σ) (by decide) rfl (Nat.le_of_ble_eq_true rfl) e1 ?_
  refine v_aload_n 2 C dL_law_892 rfl ?_
  refine v_aload_n 4 C dL_law_893 rfl ?_
  refine v_iload 0 C dL_law_894 rfl ?_
  refine v_iconst (v := 1) C dL_law_896 (by decide) ?_
  refine v_iadd C dL_law_897 ?_
  refine v_sld C hs hi.2.1 dL_law_898 ?_
  refine v_aload_n 4 C dL_law_899 rfl ?_
  refine v_iload 0 C dL_law_900 rfl ?_
  refine v_iconst (v := 2) C dL_law_902 (by decide) ?_
  refine v_iadd C dL_law_903 ?_
  refine v_sld C hs hi.2.2.1 dL_law_904 ?_
  refine v_ask (as := [.int (xs (i + 1).toNatClampNeg), .int (xs (i + 2).toNatClampNeg)]) C dL_law_905 lv_L_91 ck_8 (kX8_dips (xs (i + 1).toNatClampNeg) (xs (i + 2).toNatClampNeg) σ1) (by decide) rfl (Nat.le_of_ble_eq_true rfl) e2 ?_
  exact v_icmp_eq_b (tgt := 1665) C dL_law_908 (by decide) (fun _ => k σ2 hR2) (fun h => absurd rfl h)
set_option maxRecDepth 20000 in
theorem lc_17 (C : Ok X RL cL_law 7 12) (hs : Sc X b L xs) (hi : Inx i L) (hR : Rel σ N) (hN : N ≤ 600) (k : ∀ σ' : St, Rel σ' (N + 1) → V X g 1665 (lvL X b i) [] σ' res) : V X g 913 (lvL X b i) [] σ res := by
  obtain ⟨r, σ1, σ2, e1, e2, hR2⟩ := act_faulty (xs (i + 1).toNatClampNeg) (xs (i + 2).toNatClampNeg) (xs (i + 3).toNatClampNeg) σ N hR hN
  unfold lvL
  refine v_aload_n 3 C dL_law_913 rfl ?_
  refine v_aload_n 4 C dL_law_914 rfl ?_
  refine v_iload 0 C dL_law_915 rfl ?_
  refine v_iconst (v := 1) C dL_law_917 (by decide) ?_
  refine v_iadd C dL_law_918 ?_
  refine v_sld C hs hi.2.1 dL_law_919 ?_
  refine v_aload_n 4 C dL_law_920 rfl ?_
  refine v_iload 0 C dL_law_921 rfl ?_
  refine v_iconst (v := 2) C dL_law_923 (by decide) ?_
  refine v_iadd C dL_law_924 ?_
  refine v_sld C hs hi.2.2.1 dL_law_925 ?_
  refine v_aload_n 4 C dL_law_926 rfl ?_
  refine v_iload 0 C dL_law_927 rfl ?_
  refine v_iconst (v := 3) C dL_law_929 (by decide) ?_
  refine v_iadd C dL_law_930 ?_
  refine v_sld C hs hi.2.2.2.1 dL_law_931 ?_
  refine v_ask (as := [.int (xs (i + 1).toNatClampNeg), .int (xs (i + 2).toNatClampNeg), .int (xs (i + 3).toNatClampNeg)]) C dL_law_932 lv_L_92 ck_7 (kX7_faulty (xs (i + 1).toNatClampNeg) (xs (i + 2).toNatClampNeg) (xs (i + 3).toNatClampNeg) σ) (by decide) rfl (Nat.le_of_ble_eq_true rfl) e1 ?_
  refine v_aload_n 2 C dL_law_935 rfl ?_
  refine v_aload_n 4 C dL_law_936 rfl ?_
  refine v_iload 0 C dL_law_937 rfl ?_
  refine v_iconst (v := 1) C dL_law_939 (by decide) ?_
  refine v_iadd C dL_law_940 ?_
  refine v_sld C hs hi.2.1 dL_law_941 ?_
  refine v_aload_n 4 C dL_law_942 rfl ?_
  refine v_iload 0 C dL_law_943 rfl ?_
  refine v_iconst (v := 2) C dL_law_945 (by decide) ?_
  refine v_iadd C dL_law_946 ?_
  refine v_sld C hs hi.2.2.1 dL_law_947 ?_
  refine v_aload_n 4 C dL_law_948 rfl ?_
  refine v_iload 0 C dL_law_949 rfl ?_
  refine v_iconst (v := 3) C dL_law_951 (by decide) ?_
  refine v_iadd C dL_law_952 ?_
  refine v_sld C hs hi.2.2.2.1 dL_law_953 ?_
  refine v_ask (as := [.int (xs (i + 1).toNatClampNeg), .int (xs (i + 2).toNatClampNeg), .int (xs (i + 3).toNatClampNeg)]) C dL_law_954 lv_L_95 ck_8 (kX8_faulty (xs (i + 1).toNatClampNeg) (xs (i + 2).toNatClampNeg) (xs (i + 3).toNatClampNeg) σ1) (by decide) rfl (Nat.le_of_ble_eq_true rfl) e2 ?_
  exact v_icmp_eq_b (tgt := 1665) C dL_law_957 (by decide) (fun _ => k σ2 hR2) (fun h => absurd rfl h)
set_option maxRecDepth 20000 in
theorem lc_18 (C : Ok X RL cL_law 7 12) (hs : Sc X b L xs) (hi : Inx i L) (hR : Rel σ N) (hN : N ≤ 600) (k : ∀ σ' : St, Rel σ' (N + 1) → V X g 1665 (lvL X b i) [] σ' res) : V X g 962 (lvL X b i) [] σ res := by
  obtain ⟨r, σ1, σ2, e1, e2, hR2⟩ := act_edges (xs (i + 1).toNatClampNeg) (xs (i + 2).toNatClampNeg) (xs (i + 3).toNatClampNeg) (xs (i + 4).toNatClampNeg) σ N hR hN
  unfold lvL
  refine v_aload_n 3 C dL_law_962 rfl ?_
  refine v_aload_n 4 C dL_law_963 rfl ?_
  refine v_iload 0 C dL_law_964 rfl ?_
  refine v_iconst (v := 1) C dL_law_966 (by decide) ?_
  refine v_iadd C dL_law_967 ?_
  refine v_sld C hs hi.2.1 dL_law_968 ?_
  refine v_aload_n 4 C dL_law_969 rfl ?_
  refine v_iload 0 C dL_law_970 rfl ?_
  refine v_iconst (v := 2) C dL_law_972 (by decide) ?_
  refine v_iadd C dL_law_973 ?_
  refine v_sld C hs hi.2.2.1 dL_law_974 ?_
  refine v_aload_n 4 C dL_law_975 rfl ?_
  refine v_iload 0 C dL_law_976 rfl ?_
  refine v_iconst (v := 3) C dL_law_978 (by decide) ?_
  refine v_iadd C dL_law_979 ?_
  refine v_sld C hs hi.2.2.2.1 dL_law_980 ?_
  refine v_aload_n 4 C dL_law_981 rfl ?_
  refine v_iload 0 C dL_law_982 rfl ?_
  refine v_iconst (v := 4) C dL_law_984 (by decide) ?_
  refine v_iadd C dL_law_985 ?_
  refine v_sld C hs hi.2.2.2.2.1 dL_law_986 ?_
  refine v_ask (as := [.int (xs (i + 1).toNatClampNeg), .int (xs (i + 2).toNatClampNeg), .int (xs (i + 3).toNatClampNeg), .int (xs (i + 4).toNatClampNeg)]) C dL_law_987 lv_L_96 ck_7 (kX7_edges (xs (i + 1).toNatClampNeg) (xs (i + 2).toNatClampNeg) (xs (i + 3).toNatClampNeg) (xs (i + 4).toNatClampNeg) σ) (by decide) rfl (Nat.le_of_ble_eq_true rfl) e1 ?_
  refine v_aload_n 2 C dL_law_990 rfl ?_
  refine v_aload_n 4 C dL_law_991 rfl ?_
  refine v_iload 0 C dL_law_992 rfl ?_
  refine v_iconst (v := 1) C dL_law_994 (by decide) ?_
  refine v_iadd C dL_law_995 ?_
  refine v_sld C hs hi.2.1 dL_law_996 ?_
  refine v_aload_n 4 C dL_law_997 rfl ?_
  refine v_iload 0 C dL_law_998 rfl ?_
  refine v_iconst (v := 2) C dL_law_1000 (by decide) ?_
  refine v_iadd C dL_law_1001 ?_
  refine v_sld C hs hi.2.2.1 dL_law_1002 ?_
  refine v_aload_n 4 C dL_law_1003 rfl ?_
  refine v_iload 0 C dL_law_1004 rfl ?_
  refine v_iconst (v := 3) C dL_law_1006 (by decide) ?_
  refine v_iadd C dL_law_1007 ?_
  refine v_sld C hs hi.2.2.2.1 dL_law_1008 ?_
  refine v_aload_n 4 C dL_law_1009 rfl ?_
  refine v_iload 0 C dL_law_1010 rfl ?_
  refine v_iconst (v := 4) C dL_law_1012 (by decide) ?_
  refine v_iadd C dL_law_1013 ?_
  refine v_sld C hs hi.2.2.2.2.1 dL_law_1014 ?_
  refine v_ask (as := [.int (xs (i + 1).toNatClampNeg), .int (xs (i + 2).toNatClampNeg), .int (xs (i + 3).toNatClampNeg), .int (xs (i + 4).toNatClampNeg)]) C dL_law_1015 lv_L_99 ck_8 (kX8_edges (xs (i + 1).toNatClampNeg) (xs (i + 2).toNatClampNeg) (xs (i + 3).toNatClampNeg) (xs (i + 4).toNatClampNeg) σ1) (by decide) rfl (Nat.le_of_ble_eq_true rfl) e2 ?_
  exact v_icmp_eq_b (tgt := 1665) C dL_law_1018 (by decide) (fun _ => k σ2 hR2) (fun h => absurd rfl h)
set_option maxRecDepth 20000 in
theorem lc_19 (C : Ok X RL cL_law 7 12) (hs : Sc X b L xs) (hi : Inx i L) (hR : Rel σ N) (hN : N ≤ 600) (k : ∀ σ' : St, Rel σ' (N + 1) → V X g 1665 (lvL X b i) [] σ' res) : V X g 1023 (lvL X b i) [] σ res := by
  obtain ⟨r, σ1, σ2, e1, e2, hR2⟩ := act_filters (xs (i + 1).toNatClampNeg) (xs (i + 2).toNatClampNeg) σ N hR hN
  unfold lvL
  refine v_aload_n 3 C dL_law_1023 rfl ?_
  refine v_aload_n 4 C dL_law_1024 rfl ?_
  refine v_iload 0 C dL_law_1025 rfl ?_
  refine v_iconst (v := 1) C dL_law_1027 (by decide) ?_
  refine v_iadd C dL_law_1028 ?_
  refine v_sld C hs hi.2.1 dL_law_1029 ?_
  refine v_aload_n 4 C dL_law_1030 rfl ?_
  refine v_iload 0 C dL_law_1031 rfl ?_
  refine v_iconst (v := 2) C dL_law_1033 (by decide) ?_
  refine v_iadd C dL_law_1034 ?_
  refine v_sld C hs hi.2.2.1 dL_law_1035 ?_
  refine v_ask (as := [.int (xs (i + 1).toNatClampNeg), .int (xs (i + 2).toNatClampNeg)]) C dL_law_1036 lv_L_100 ck_7 (kX7_filters (xs (i + 1).toNatClampNeg) (xs (i + 2).toNatClampNeg) σ) (by decide) rfl (Nat.le_of_ble_eq_true rfl) e1 ?_
  refine v_aload_n 2 C dL_law_1039 rfl ?_
  refine v_aload_n 4 C dL_law_1040 rfl ?_
  refine v_iload 0 C dL_law_1041 rfl ?_
  refine v_iconst (v := 1) C dL_law_1043 (by decide) ?_
  refine v_iadd C dL_law_1044 ?_
  refine v_sld C hs hi.2.1 dL_law_1045 ?_
  refine v_aload_n 4 C dL_law_1046 rfl ?_
  refine v_iload 0 C dL_law_1047 rfl ?_
  refine v_iconst (v := 2) C dL_law_1049 (by decide) ?_
  refine v_iadd C dL_law_1050 ?_
  refine v_sld C hs hi.2.2.1 dL_law_1051 ?_
  refine v_ask (as := [.int (xs (i + 1).toNatClampNeg), .int (xs (i + 2).toNatClampNeg)]) C dL_law_1052 lv_L_103 ck_8 (kX8_filters (xs (i + 1).toNatClampNeg) (xs (i + 2).toNatClampNeg) σ1) (by decide) rfl (Nat.le_of_ble_eq_true rfl) e2 ?_
  exact v_icmp_eq_b (tgt := 1665) C dL_law_1055 (by decide) (fun _ => k σ2 hR2) (fun h => absurd rfl h)
set_option maxRecDepth 20000 in
theorem lc_20 (C : Ok X RL cL_law 7 12) (hs : Sc X b L xs) (hi : Inx i L) (hR : Rel σ N) (hN : N ≤ 600) (k : ∀ σ' : St, Rel σ' (N + 1) → V X g 1665 (lvL X b i) [] σ' res) : V X g 1060 (lvL X b i) [] σ res := by
  obtain ⟨r, σ1, σ2, e1, e2, hR2⟩ := act_slowest (xs (i + 1).toNatClampNeg) σ N hR hN
  unfold lvL
  refine v_aload_n 3 C dL_law_1060 rfl ?_
  refine v_aload_n 4 C dL_law_1061 rfl ?_
  refine v_iload 0 C dL_law_1062 rfl ?_
  refine v_iconst (v := 1) C dL_law_1064 (by decide) ?_
  refine v_iadd C dL_law_1065 ?_
  refine v_sld C hs hi.2.1 dL_law_1066 ?_
  refine v_ask (as := [.int (xs (i + 1).toNatClampNeg)]) C dL_law_1067 lv_L_104 ck_7 (kX7_slowest (xs (i + 1).toNatClampNeg) σ) (by decide) rfl (Nat.le_of_ble_eq_true rfl) e1 ?_
  refine v_aload_n 2 C dL_law_1070 rfl ?_
  refine v_aload_n 4 C dL_law_1071 rfl ?_
  refine v_iload 0 C dL_law_1072 rfl ?_
  refine v_iconst (v := 1) C dL_law_1074 (by decide) ?_
  refine v_iadd C dL_law_1075 ?_
  refine v_sld C hs hi.2.1 dL_law_1076 ?_
  refine v_ask (as := [.int (xs (i + 1).toNatClampNeg)]) C dL_law_1077 lv_L_107 ck_8 (kX8_slowest (xs (i + 1).toNatClampNeg) σ1) (by decide) rfl (Nat.le_of_ble_eq_true rfl) e2 ?_
  exact v_icmp_eq_b (tgt := 1665) C dL_law_1080 (by decide) (fun _ => k σ2 hR2) (fun h => absurd rfl h)
set_option maxRecDepth 20000 in
theorem lc_21 (C : Ok X RL cL_law 7 12) (hs : Sc X b L xs) (hi : Inx i L) (hR : Rel σ N) (hN : N ≤ 600) (k : ∀ σ' : St, Rel σ' (N + 1) → V X g 1665 (lvL X b i) [] σ' res) : V X g 1085 (lvL X b i) [] σ res := by
  obtain ⟨r, σ1, σ2, e1, e2, hR2⟩ := act_settled (xs (i + 1).toNatClampNeg) (xs (i + 2).toNatClampNeg) σ N hR hN
  unfold lvL
  refine v_aload_n 3 C dL_law_1085 rfl ?_
  refine v_aload_n 4 C dL_law_1086 rfl ?_
  refine v_iload 0 C dL_law_1087 rfl ?_
  refine v_iconst (v := 1) C dL_law_1089 (by decide) ?_
  refine v_iadd C dL_law_1090 ?_
  refine v_sld C hs hi.2.1 dL_law_1091 ?_
  refine v_aload_n 4 C dL_law_1092 rfl ?_
  refine v_iload 0 C dL_law_1093 rfl ?_
  refine v_iconst (v := 2) C dL_law_1095 (by decide) ?_
  refine v_iadd C dL_law_1096 ?_
  refine v_sld C hs hi.2.2.1 dL_law_1097 ?_
  refine v_ask (as := [.int (xs (i + 1).toNatClampNeg), .int (xs (i + 2).toNatClampNeg)]) C dL_law_1098 lv_L_108 ck_7 (kX7_settled (xs (i + 1).toNatClampNeg) (xs (i + 2).toNatClampNeg) σ) (by decide) rfl (Nat.le_of_ble_eq_true rfl) e1 ?_
  refine v_aload_n 2 C dL_law_1101 rfl ?_
  refine v_aload_n 4 C dL_law_1102 rfl ?_
  refine v_iload 0 C dL_law_1103 rfl ?_
  refine v_iconst (v := 1) C dL_law_1105 (by decide) ?_
  refine v_iadd C dL_law_1106 ?_
  refine v_sld C hs hi.2.1 dL_law_1107 ?_
  refine v_aload_n 4 C dL_law_1108 rfl ?_
  refine v_iload 0 C dL_law_1109 rfl ?_
  refine v_iconst (v := 2) C dL_law_1111 (by decide) ?_
  refine v_iadd C dL_law_1112 ?_
  refine v_sld C hs hi.2.2.1 dL_law_1113 ?_
  refine v_ask (as := [.int (xs (i + 1).toNatClampNeg), .int (xs (i + 2).toNatClampNeg)]) C dL_law_1114 lv_L_111 ck_8 (kX8_settled (xs (i + 1).toNatClampNeg) (xs (i + 2).toNatClampNeg) σ1) (by decide) rfl (Nat.le_of_ble_eq_true rfl) e2 ?_
  exact v_icmp_eq_b (tgt := 1665) C dL_law_1117 (by decide) (fun _ => k σ2 hR2) (fun h => absurd rfl h)
set_option maxRecDepth 20000 in
theorem lc_22 (C : Ok X RL cL_law 7 12) (hs : Sc X b L xs) (hi : Inx i L) (hR : Rel σ N) (hN : N ≤ 600) (k : ∀ σ' : St, Rel σ' (N + 1) → V X g 1665 (lvL X b i) [] σ' res) : V X g 1122 (lvL X b i) [] σ res := by
  obtain ⟨r, σ1, σ2, e1, e2, hR2⟩ := act_enough (xs (i + 1).toNatClampNeg) σ N hR hN
  unfold lvL
  refine v_aload_n 3 C dL_law_1122 rfl ?_
  refine v_aload_n 4 C dL_law_1123 rfl ?_
  refine v_iload 0 C dL_law_1124 rfl ?_
  refine v_iconst (v := 1) C dL_law_1126 (by decide) ?_
  refine v_iadd C dL_law_1127 ?_
  refine v_sld C hs hi.2.1 dL_law_1128 ?_
  refine v_ask (as := [.int (xs (i + 1).toNatClampNeg)]) C dL_law_1129 lv_L_112 ck_7 (kX7_enough (xs (i + 1).toNatClampNeg) σ) (by decide) rfl (Nat.le_of_ble_eq_true rfl) e1 ?_
  refine v_aload_n 2 C dL_law_1132 rfl ?_
  refine v_aload_n 4 C dL_law_1133 rfl ?_
  refine v_iload 0 C dL_law_1134 rfl ?_
  refine v_iconst (v := 1) C dL_law_1136 (by decide) ?_
  refine v_iadd C dL_law_1137 ?_
  refine v_sld C hs hi.2.1 dL_law_1138 ?_
  refine v_ask (as := [.int (xs (i + 1).toNatClampNeg)]) C dL_law_1139 lv_L_115 ck_8 (kX8_enough (xs (i + 1).toNatClampNeg) σ1) (by decide) rfl (Nat.le_of_ble_eq_true rfl) e2 ?_
  exact v_icmp_eq_b (tgt := 1665) C dL_law_1142 (by decide) (fun _ => k σ2 hR2) (fun h => absurd rfl h)
set_option maxRecDepth 20000 in
theorem lc_23 (C : Ok X RL cL_law 7 12) (hs : Sc X b L xs) (hi : Inx i L) (hR : Rel σ N) (hN : N ≤ 600) (k : ∀ σ' : St, Rel σ' (N + 1) → V X g 1665 (lvL X b i) [] σ' res) : V X g 1147 (lvL X b i) [] σ res := by
  obtain ⟨r, σ1, σ2, e1, e2, hR2⟩ := act_would (xs (i + 1).toNatClampNeg) σ N hR hN
  unfold lvL
  refine v_aload_n 3 C dL_law_1147 rfl ?_
  refine v_aload_n 4 C dL_law_1148 rfl ?_
  refine v_iload 0 C dL_law_1149 rfl ?_
  refine v_iconst (v := 1) C dL_law_1151 (by decide) ?_
  refine v_iadd C dL_law_1152 ?_
  refine v_sld C hs hi.2.1 dL_law_1153 ?_
  refine v_ask (as := [.int (xs (i + 1).toNatClampNeg)]) C dL_law_1154 lv_L_116 ck_7 (kX7_would (xs (i + 1).toNatClampNeg) σ) (by decide) rfl (Nat.le_of_ble_eq_true rfl) e1 ?_
  refine v_aload_n 2 C dL_law_1157 rfl ?_
  refine v_aload_n 4 C dL_law_1158 rfl ?_
  refine v_iload 0 C dL_law_1159 rfl ?_
  refine v_iconst (v := 1) C dL_law_1161 (by decide) ?_
  refine v_iadd C dL_law_1162 ?_
  refine v_sld C hs hi.2.1 dL_law_1163 ?_
  refine v_ask (as := [.int (xs (i + 1).toNatClampNeg)]) C dL_law_1164 lv_L_119 ck_8 (kX8_would (xs (i + 1).toNatClampNeg) σ1) (by decide) rfl (Nat.le_of_ble_eq_true rfl) e2 ?_
  exact v_icmp_eq_b (tgt := 1665) C dL_law_1167 (by decide) (fun _ => k σ2 hR2) (fun h => absurd rfl h)
set_option maxRecDepth 20000 in
theorem lc_24 (C : Ok X RL cL_law 7 12) (hs : Sc X b L xs) (hi : Inx i L) (hR : Rel σ N) (hN : N ≤ 600) (k : ∀ σ' : St, Rel σ' (N + 1) → V X g 1665 (lvL X b i) [] σ' res) : V X g 1172 (lvL X b i) [] σ res := by
  obtain ⟨r, σ1, σ2, e1, e2, hR2⟩ := act_now (xs (i + 1).toNatClampNeg) σ N hR hN
  unfold lvL
  refine v_aload_n 3 C dL_law_1172 rfl ?_
  refine v_aload_n 4 C dL_law_1173 rfl ?_
  refine v_iload 0 C dL_law_1174 rfl ?_
  refine v_iconst (v := 1) C dL_law_1176 (by decide) ?_
  refine v_iadd C dL_law_1177 ?_
  refine v_sld C hs hi.2.1 dL_law_1178 ?_
  refine v_ask (as := [.int (xs (i + 1).toNatClampNeg)]) C dL_law_1179 lv_L_120 ck_7 (kX7_now (xs (i + 1).toNatClampNeg) σ) (by decide) rfl (Nat.le_of_ble_eq_true rfl) e1 ?_
  refine v_aload_n 2 C dL_law_1182 rfl ?_
  refine v_aload_n 4 C dL_law_1183 rfl ?_
  refine v_iload 0 C dL_law_1184 rfl ?_
  refine v_iconst (v := 1) C dL_law_1186 (by decide) ?_
  refine v_iadd C dL_law_1187 ?_
  refine v_sld C hs hi.2.1 dL_law_1188 ?_
  refine v_ask (as := [.int (xs (i + 1).toNatClampNeg)]) C dL_law_1189 lv_L_123 ck_8 (kX8_now (xs (i + 1).toNatClampNeg) σ1) (by decide) rfl (Nat.le_of_ble_eq_true rfl) e2 ?_
  exact v_icmp_eq_b (tgt := 1665) C dL_law_1192 (by decide) (fun _ => k σ2 hR2) (fun h => absurd rfl h)
set_option maxRecDepth 20000 in
theorem lc_25 (C : Ok X RL cL_law 7 12) (hs : Sc X b L xs) (hi : Inx i L) (hR : Rel σ N) (hN : N ≤ 600) (k : ∀ σ' : St, Rel σ' (N + 1) → V X g 1665 (lvL X b i) [] σ' res) : V X g 1197 (lvL X b i) [] σ res := by
  obtain ⟨r, σ1, σ2, e1, e2, hR2⟩ := act_ledger (xs (i + 1).toNatClampNeg) (xs (i + 2).toNatClampNeg) σ N hR hN
  unfold lvL
  refine v_aload_n 3 C dL_law_1197 rfl ?_
  refine v_aload_n 4 C dL_law_1198 rfl ?_
  refine v_iload 0 C dL_law_1199 rfl ?_
  refine v_iconst (v := 1) C dL_law_1201 (by decide) ?_
  refine v_iadd C dL_law_1202 ?_
  refine v_sld C hs hi.2.1 dL_law_1203 ?_
  refine v_aload_n 4 C dL_law_1204 rfl ?_
  refine v_iload 0 C dL_law_1205 rfl ?_
  refine v_iconst (v := 2) C dL_law_1207 (by decide) ?_
  refine v_iadd C dL_law_1208 ?_
  refine v_sld C hs hi.2.2.1 dL_law_1209 ?_
  refine v_ask (as := [.int (xs (i + 1).toNatClampNeg), .int (xs (i + 2).toNatClampNeg)]) C dL_law_1210 lv_L_124 ck_7 (kX7_ledger (xs (i + 1).toNatClampNeg) (xs (i + 2).toNatClampNeg) σ) (by decide) rfl (Nat.le_of_ble_eq_true rfl) e1 ?_
  refine v_aload_n 2 C dL_law_1213 rfl ?_
  refine v_aload_n 4 C dL_law_1214 rfl ?_
  refine v_iload 0 C dL_law_1215 rfl ?_
  refine v_iconst (v := 1) C dL_law_1217 (by decide) ?_
  refine v_iadd C dL_law_1218 ?_
  refine v_sld C hs hi.2.1 dL_law_1219 ?_
  refine v_aload_n 4 C dL_law_1220 rfl ?_
  refine v_iload 0 C dL_law_1221 rfl ?_
  refine v_iconst (v := 2) C dL_law_1223 (by decide) ?_
  refine v_iadd C dL_law_1224 ?_
  refine v_sld C hs hi.2.2.1 dL_law_1225 ?_
  refine v_ask (as := [.int (xs (i + 1).toNatClampNeg), .int (xs (i + 2).toNatClampNeg)]) C dL_law_1226 lv_L_127 ck_8 (kX8_ledger (xs (i + 1).toNatClampNeg) (xs (i + 2).toNatClampNeg) σ1) (by decide) rfl (Nat.le_of_ble_eq_true rfl) e2 ?_
  exact v_icmp_eq_b (tgt := 1665) C dL_law_1229 (by decide) (fun _ => k σ2 hR2) (fun h => absurd rfl h)
set_option maxRecDepth 20000 in
theorem lc_26 (C : Ok X RL cL_law 7 12) (hs : Sc X b L xs) (hi : Inx i L) (hR : Rel σ N) (hN : N ≤ 600) (k : ∀ σ' : St, Rel σ' (N + 1) → V X g 1665 (lvL X b i) [] σ' res) : V X g 1234 (lvL X b i) [] σ res := by
  obtain ⟨r, σ1, σ2, e1, e2, hR2⟩ := act_log (xs (i + 1).toNatClampNeg) (xs (i + 2).toNatClampNeg) σ N hR hN
  unfold lvL
  refine v_aload_n 3 C dL_law_1234 rfl ?_
  refine v_aload_n 4 C dL_law_1235 rfl ?_
  refine v_iload 0 C dL_law_1236 rfl ?_
  refine v_iconst (v := 1) C dL_law_1238 (by decide) ?_
  refine v_iadd C dL_law_1239 ?_
  refine v_sld C hs hi.2.1 dL_law_1240 ?_
  refine v_aload_n 4 C dL_law_1241 rfl ?_
  refine v_iload 0 C dL_law_1242 rfl ?_
  refine v_iconst (v := 2) C dL_law_1244 (by decide) ?_
  refine v_iadd C dL_law_1245 ?_
  refine v_sld C hs hi.2.2.1 dL_law_1246 ?_
  refine v_ask (as := [.int (xs (i + 1).toNatClampNeg), .int (xs (i + 2).toNatClampNeg)]) C dL_law_1247 lv_L_128 ck_7 (kX7_log (xs (i + 1).toNatClampNeg) (xs (i + 2).toNatClampNeg) σ) (by decide) rfl (Nat.le_of_ble_eq_true rfl) e1 ?_
  refine v_aload_n 2 C dL_law_1250 rfl ?_
  refine v_aload_n 4 C dL_law_1251 rfl ?_
  refine v_iload 0 C dL_law_1252 rfl ?_
  refine v_iconst (v := 1) C dL_law_1254 (by decide) ?_
  refine v_iadd C dL_law_1255 ?_
  refine v_sld C hs hi.2.1 dL_law_1256 ?_
  refine v_aload_n 4 C dL_law_1257 rfl ?_
  refine v_iload 0 C dL_law_1258 rfl ?_
  refine v_iconst (v := 2) C dL_law_1260 (by decide) ?_
  refine v_iadd C dL_law_1261 ?_
  refine v_sld C hs hi.2.2.1 dL_law_1262 ?_
  refine v_ask (as := [.int (xs (i + 1).toNatClampNeg), .int (xs (i + 2).toNatClampNeg)]) C dL_law_1263 lv_L_131 ck_8 (kX8_log (xs (i + 1).toNatClampNeg) (xs (i + 2).toNatClampNeg) σ1) (by decide) rfl (Nat.le_of_ble_eq_true rfl) e2 ?_
  exact v_icmp_eq_b (tgt := 1665) C dL_law_1266 (by decide) (fun _ => k σ2 hR2) (fun h => absurd rfl h)
set_option maxRecDepth 20000 in
theorem lc_27 (C : Ok X RL cL_law 7 12) (hs : Sc X b L xs) (hi : Inx i L) (hR : Rel σ N) (hN : N ≤ 600) (k : ∀ σ' : St, Rel σ' (N + 1) → V X g 1665 (lvL X b i) [] σ' res) : V X g 1271 (lvL X b i) [] σ res := by
  obtain ⟨r, σ1, σ2, e1, e2, hR2⟩ := act_past (xs (i + 1).toNatClampNeg) σ N hR hN
  unfold lvL
  refine v_aload_n 3 C dL_law_1271 rfl ?_
  refine v_aload_n 4 C dL_law_1272 rfl ?_
  refine v_iload 0 C dL_law_1273 rfl ?_
  refine v_iconst (v := 1) C dL_law_1275 (by decide) ?_
  refine v_iadd C dL_law_1276 ?_
  refine v_sld C hs hi.2.1 dL_law_1277 ?_
  refine v_ask (as := [.int (xs (i + 1).toNatClampNeg)]) C dL_law_1278 lv_L_132 ck_7 (kX7_past (xs (i + 1).toNatClampNeg) σ) (by decide) rfl (Nat.le_of_ble_eq_true rfl) e1 ?_
  refine v_aload_n 2 C dL_law_1281 rfl ?_
  refine v_aload_n 4 C dL_law_1282 rfl ?_
  refine v_iload 0 C dL_law_1283 rfl ?_
  refine v_iconst (v := 1) C dL_law_1285 (by decide) ?_
  refine v_iadd C dL_law_1286 ?_
  refine v_sld C hs hi.2.1 dL_law_1287 ?_
  refine v_ask (as := [.int (xs (i + 1).toNatClampNeg)]) C dL_law_1288 lv_L_135 ck_8 (kX8_past (xs (i + 1).toNatClampNeg) σ1) (by decide) rfl (Nat.le_of_ble_eq_true rfl) e2 ?_
  exact v_icmp_eq_b (tgt := 1665) C dL_law_1291 (by decide) (fun _ => k σ2 hR2) (fun h => absurd rfl h)
set_option maxRecDepth 20000 in
theorem lc_28 (C : Ok X RL cL_law 7 12) (hs : Sc X b L xs) (hi : Inx i L) (hR : Rel σ N) (hN : N ≤ 600) (k : ∀ σ' : St, Rel σ' (N + 1) → V X g 1665 (lvL X b i) [] σ' res) : V X g 1296 (lvL X b i) [] σ res := by
  obtain ⟨r, σ1, σ2, e1, e2, hR2⟩ := act_idle σ N hR hN
  unfold lvL
  refine v_aload_n 3 C dL_law_1296 rfl ?_
  refine v_ask (as := []) C dL_law_1297 lv_L_136 ck_7 (kX7_idle σ) (by decide) rfl (Nat.le_of_ble_eq_true rfl) e1 ?_
  refine v_aload_n 2 C dL_law_1300 rfl ?_
  refine v_ask (as := []) C dL_law_1301 lv_L_139 ck_8 (kX8_idle σ1) (by decide) rfl (Nat.le_of_ble_eq_true rfl) e2 ?_
  exact v_icmp_eq_b (tgt := 1665) C dL_law_1304 (by decide) (fun _ => k σ2 hR2) (fun h => absurd rfl h)
set_option maxRecDepth 20000 in
theorem lc_29 (C : Ok X RL cL_law 7 12) (hs : Sc X b L xs) (hi : Inx i L) (hR : Rel σ N) (hN : N ≤ 600) (k : ∀ σ' : St, Rel σ' (N + 1) → V X g 1665 (lvL X b i) [] σ' res) : V X g 1309 (lvL X b i) [] σ res := by
  obtain ⟨r, σ1, σ2, e1, e2, hR2⟩ := act_waiting (xs (i + 1).toNatClampNeg) σ N hR hN
  unfold lvL
  refine v_aload_n 3 C dL_law_1309 rfl ?_
  refine v_aload_n 4 C dL_law_1310 rfl ?_
  refine v_iload 0 C dL_law_1311 rfl ?_
  refine v_iconst (v := 1) C dL_law_1313 (by decide) ?_
  refine v_iadd C dL_law_1314 ?_
  refine v_sld C hs hi.2.1 dL_law_1315 ?_
  refine v_ask (as := [.int (xs (i + 1).toNatClampNeg)]) C dL_law_1316 lv_L_140 ck_7 (kX7_waiting (xs (i + 1).toNatClampNeg) σ) (by decide) rfl (Nat.le_of_ble_eq_true rfl) e1 ?_
  refine v_aload_n 2 C dL_law_1319 rfl ?_
  refine v_aload_n 4 C dL_law_1320 rfl ?_
  refine v_iload 0 C dL_law_1321 rfl ?_
  refine v_iconst (v := 1) C dL_law_1323 (by decide) ?_
  refine v_iadd C dL_law_1324 ?_
  refine v_sld C hs hi.2.1 dL_law_1325 ?_
  refine v_ask (as := [.int (xs (i + 1).toNatClampNeg)]) C dL_law_1326 lv_L_143 ck_8 (kX8_waiting (xs (i + 1).toNatClampNeg) σ1) (by decide) rfl (Nat.le_of_ble_eq_true rfl) e2 ?_
  exact v_icmp_eq_b (tgt := 1665) C dL_law_1329 (by decide) (fun _ => k σ2 hR2) (fun h => absurd rfl h)
set_option maxRecDepth 20000 in
theorem lc_30 (C : Ok X RL cL_law 7 12) (hs : Sc X b L xs) (hi : Inx i L) (hR : Rel σ N) (hN : N ≤ 600) (k : ∀ σ' : St, Rel σ' (N + 1) → V X g 1665 (lvL X b i) [] σ' res) : V X g 1334 (lvL X b i) [] σ res := by
  obtain ⟨r, σ1, σ2, e1, e2, hR2⟩ := act_longest σ N hR hN
  unfold lvL
  refine v_aload_n 3 C dL_law_1334 rfl ?_
  refine v_ask (as := []) C dL_law_1335 lv_L_144 ck_7 (kX7_longest σ) (by decide) rfl (Nat.le_of_ble_eq_true rfl) e1 ?_
  refine v_aload_n 2 C dL_law_1338 rfl ?_
  refine v_ask (as := []) C dL_law_1339 lv_L_147 ck_8 (kX8_longest σ1) (by decide) rfl (Nat.le_of_ble_eq_true rfl) e2 ?_
  exact v_icmp_eq_b (tgt := 1665) C dL_law_1342 (by decide) (fun _ => k σ2 hR2) (fun h => absurd rfl h)
set_option maxRecDepth 20000 in
theorem lc_31 (C : Ok X RL cL_law 7 12) (hs : Sc X b L xs) (hi : Inx i L) (hR : Rel σ N) (hN : N ≤ 600) (k : ∀ σ' : St, Rel σ' (N + 1) → V X g 1665 (lvL X b i) [] σ' res) : V X g 1347 (lvL X b i) [] σ res := by
  obtain ⟨r, σ1, σ2, e1, e2, hR2⟩ := act_will (xs (i + 1).toNatClampNeg) (xs (i + 2).toNatClampNeg) σ N hR hN
  unfold lvL
  refine v_aload_n 3 C dL_law_1347 rfl ?_
  refine v_aload_n 4 C dL_law_1348 rfl ?_
  refine v_iload 0 C dL_law_1349 rfl ?_
  refine v_iconst (v := 1) C dL_law_1351 (by decide) ?_
  refine v_iadd C dL_law_1352 ?_
  refine v_sld C hs hi.2.1 dL_law_1353 ?_
  refine v_aload_n 4 C dL_law_1354 rfl ?_
  refine v_iload 0 C dL_law_1355 rfl ?_
  refine v_iconst (v := 2) C dL_law_1357 (by decide) ?_
  refine v_iadd C dL_law_1358 ?_
  refine v_sld C hs hi.2.2.1 dL_law_1359 ?_
  refine v_ask (as := [.int (xs (i + 1).toNatClampNeg), .int (xs (i + 2).toNatClampNeg)]) C dL_law_1360 lv_L_148 ck_7 (kX7_will (xs (i + 1).toNatClampNeg) (xs (i + 2).toNatClampNeg) σ) (by decide) rfl (Nat.le_of_ble_eq_true rfl) e1 ?_
  refine v_aload_n 2 C dL_law_1363 rfl ?_
  refine v_aload_n 4 C dL_law_1364 rfl ?_
  refine v_iload 0 C dL_law_1365 rfl ?_
  refine v_iconst (v := 1) C dL_law_1367 (by decide) ?_
  refine v_iadd C dL_law_1368 ?_
  refine v_sld C hs hi.2.1 dL_law_1369 ?_
  refine v_aload_n 4 C dL_law_1370 rfl ?_
  refine v_iload 0 C dL_law_1371 rfl ?_
  refine v_iconst (v := 2) C dL_law_1373 (by decide) ?_
  refine v_iadd C dL_law_1374 ?_
  refine v_sld C hs hi.2.2.1 dL_law_1375 ?_
  refine v_ask (as := [.int (xs (i + 1).toNatClampNeg), .int (xs (i + 2).toNatClampNeg)]) C dL_law_1376 lv_L_151 ck_8 (kX8_will (xs (i + 1).toNatClampNeg) (xs (i + 2).toNatClampNeg) σ1) (by decide) rfl (Nat.le_of_ble_eq_true rfl) e2 ?_
  exact v_icmp_eq_b (tgt := 1665) C dL_law_1379 (by decide) (fun _ => k σ2 hR2) (fun h => absurd rfl h)
set_option maxRecDepth 20000 in
theorem lc_32 (C : Ok X RL cL_law 7 12) (hs : Sc X b L xs) (hi : Inx i L) (hR : Rel σ N) (hN : N ≤ 600) (k : ∀ σ' : St, Rel σ' (N + 1) → V X g 1665 (lvL X b i) [] σ' res) : V X g 1384 (lvL X b i) [] σ res := by
  obtain ⟨r, σ1, σ2, e1, e2, hR2⟩ := act_till (xs (i + 1).toNatClampNeg) σ N hR hN
  unfold lvL
  refine v_aload_n 3 C dL_law_1384 rfl ?_
  refine v_aload_n 4 C dL_law_1385 rfl ?_
  refine v_iload 0 C dL_law_1386 rfl ?_
  refine v_iconst (v := 1) C dL_law_1388 (by decide) ?_
  refine v_iadd C dL_law_1389 ?_
  refine v_sld C hs hi.2.1 dL_law_1390 ?_
  refine v_ask (as := [.int (xs (i + 1).toNatClampNeg)]) C dL_law_1391 lv_L_152 ck_7 (kX7_till (xs (i + 1).toNatClampNeg) σ) (by decide) rfl (Nat.le_of_ble_eq_true rfl) e1 ?_
  refine v_aload_n 2 C dL_law_1394 rfl ?_
  refine v_aload_n 4 C dL_law_1395 rfl ?_
  refine v_iload 0 C dL_law_1396 rfl ?_
  refine v_iconst (v := 1) C dL_law_1398 (by decide) ?_
  refine v_iadd C dL_law_1399 ?_
  refine v_sld C hs hi.2.1 dL_law_1400 ?_
  refine v_ask (as := [.int (xs (i + 1).toNatClampNeg)]) C dL_law_1401 lv_L_155 ck_8 (kX8_till (xs (i + 1).toNatClampNeg) σ1) (by decide) rfl (Nat.le_of_ble_eq_true rfl) e2 ?_
  exact v_icmp_eq_b (tgt := 1665) C dL_law_1404 (by decide) (fun _ => k σ2 hR2) (fun h => absurd rfl h)
set_option maxRecDepth 20000 in
theorem lc_33 (C : Ok X RL cL_law 7 12) (hs : Sc X b L xs) (hi : Inx i L) (hR : Rel σ N) (hN : N ≤ 600) (k : ∀ σ' : St, Rel σ' (N + 1) → V X g 1665 (lvL X b i) [] σ' res) : V X g 1409 (lvL X b i) [] σ res := by
  obtain ⟨r, σ1, σ2, e1, e2, hR2⟩ := act_ask (xs (i + 1).toNatClampNeg) (xs (i + 2).toNatClampNeg) σ N hR hN
  unfold lvL
  refine v_aload_n 3 C dL_law_1409 rfl ?_
  refine v_aload_n 4 C dL_law_1410 rfl ?_
  refine v_iload 0 C dL_law_1411 rfl ?_
  refine v_iconst (v := 1) C dL_law_1413 (by decide) ?_
  refine v_iadd C dL_law_1414 ?_
  refine v_sld C hs hi.2.1 dL_law_1415 ?_
  refine v_aload_n 4 C dL_law_1416 rfl ?_
  refine v_iload 0 C dL_law_1417 rfl ?_
  refine v_iconst (v := 2) C dL_law_1419 (by decide) ?_
  refine v_iadd C dL_law_1420 ?_
  refine v_sld C hs hi.2.2.1 dL_law_1421 ?_
  refine v_ask (as := [.int (xs (i + 1).toNatClampNeg), .int (xs (i + 2).toNatClampNeg)]) C dL_law_1422 lv_L_156 ck_7 (kX7_ask (xs (i + 1).toNatClampNeg) (xs (i + 2).toNatClampNeg) σ) (by decide) rfl (Nat.le_of_ble_eq_true rfl) e1 ?_
  refine v_aload_n 2 C dL_law_1425 rfl ?_
  refine v_aload_n 4 C dL_law_1426 rfl ?_
  refine v_iload 0 C dL_law_1427 rfl ?_
  refine v_iconst (v := 1) C dL_law_1429 (by decide) ?_
  refine v_iadd C dL_law_1430 ?_
  refine v_sld C hs hi.2.1 dL_law_1431 ?_
  refine v_aload_n 4 C dL_law_1432 rfl ?_
  refine v_iload 0 C dL_law_1433 rfl ?_
  refine v_iconst (v := 2) C dL_law_1435 (by decide) ?_
  refine v_iadd C dL_law_1436 ?_
  refine v_sld C hs hi.2.2.1 dL_law_1437 ?_
  refine v_ask (as := [.int (xs (i + 1).toNatClampNeg), .int (xs (i + 2).toNatClampNeg)]) C dL_law_1438 lv_L_159 ck_8 (kX8_ask (xs (i + 1).toNatClampNeg) (xs (i + 2).toNatClampNeg) σ1) (by decide) rfl (Nat.le_of_ble_eq_true rfl) e2 ?_
  exact v_icmp_eq_b (tgt := 1665) C dL_law_1441 (by decide) (fun _ => k σ2 hR2) (fun h => absurd rfl h)
set_option maxRecDepth 20000 in
theorem lc_34 (C : Ok X RL cL_law 7 12) (hs : Sc X b L xs) (hi : Inx i L) (hR : Rel σ N) (hN : N ≤ 600) (k : ∀ σ' : St, Rel σ' (N + 1) → V X g 1665 (lvL X b i) [] σ' res) : V X g 1446 (lvL X b i) [] σ res := by
  obtain ⟨r, σ1, σ2, e1, e2, hR2⟩ := act_waits (xs (i + 1).toNatClampNeg) (xs (i + 2).toNatClampNeg) σ N hR hN
  unfold lvL
  refine v_aload_n 3 C dL_law_1446 rfl ?_
  refine v_aload_n 4 C dL_law_1447 rfl ?_
  refine v_iload 0 C dL_law_1448 rfl ?_
  refine v_iconst (v := 1) C dL_law_1450 (by decide) ?_
  refine v_iadd C dL_law_1451 ?_
  refine v_sld C hs hi.2.1 dL_law_1452 ?_
  refine v_aload_n 4 C dL_law_1453 rfl ?_
  refine v_iload 0 C dL_law_1454 rfl ?_
  refine v_iconst (v := 2) C dL_law_1456 (by decide) ?_
  refine v_iadd C dL_law_1457 ?_
  refine v_sld C hs hi.2.2.1 dL_law_1458 ?_
  refine v_ask (as := [.int (xs (i + 1).toNatClampNeg), .int (xs (i + 2).toNatClampNeg)]) C dL_law_1459 lv_L_160 ck_7 (kX7_waits (xs (i + 1).toNatClampNeg) (xs (i + 2).toNatClampNeg) σ) (by decide) rfl (Nat.le_of_ble_eq_true rfl) e1 ?_
  refine v_aload_n 2 C dL_law_1462 rfl ?_
  refine v_aload_n 4 C dL_law_1463 rfl ?_
  refine v_iload 0 C dL_law_1464 rfl ?_
  refine v_iconst (v := 1) C dL_law_1466 (by decide) ?_
  refine v_iadd C dL_law_1467 ?_
  refine v_sld C hs hi.2.1 dL_law_1468 ?_
  refine v_aload_n 4 C dL_law_1469 rfl ?_
  refine v_iload 0 C dL_law_1470 rfl ?_
  refine v_iconst (v := 2) C dL_law_1472 (by decide) ?_
  refine v_iadd C dL_law_1473 ?_
  refine v_sld C hs hi.2.2.1 dL_law_1474 ?_
  refine v_ask (as := [.int (xs (i + 1).toNatClampNeg), .int (xs (i + 2).toNatClampNeg)]) C dL_law_1475 lv_L_163 ck_8 (kX8_waits (xs (i + 1).toNatClampNeg) (xs (i + 2).toNatClampNeg) σ1) (by decide) rfl (Nat.le_of_ble_eq_true rfl) e2 ?_
  exact v_icmp_eq_b (tgt := 1665) C dL_law_1478 (by decide) (fun _ => k σ2 hR2) (fun h => absurd rfl h)
set_option maxRecDepth 20000 in
theorem lc_35 (C : Ok X RL cL_law 7 12) (hs : Sc X b L xs) (hi : Inx i L) (hR : Rel σ N) (hN : N ≤ 600) (k : ∀ σ' : St, Rel σ' (N + 1) → V X g 1665 (lvL X b i) [] σ' res) : V X g 1483 (lvL X b i) [] σ res := by
  obtain ⟨r, σ1, σ2, e1, e2, hR2⟩ := act_stick (xs (i + 1).toNatClampNeg) (xs (i + 2).toNatClampNeg) σ N hR hN
  unfold lvL
  refine v_aload_n 3 C dL_law_1483 rfl ?_
  refine v_aload_n 4 C dL_law_1484 rfl ?_
  refine v_iload 0 C dL_law_1485 rfl ?_
  refine v_iconst (v := 1) C dL_law_1487 (by decide) ?_
  refine v_iadd C dL_law_1488 ?_
  refine v_sld C hs hi.2.1 dL_law_1489 ?_
  refine v_aload_n 4 C dL_law_1490 rfl ?_
  refine v_iload 0 C dL_law_1491 rfl ?_
  refine v_iconst (v := 2) C dL_law_1493 (by decide) ?_
  refine v_iadd C dL_law_1494 ?_
  refine v_sld C hs hi.2.2.1 dL_law_1495 ?_
  refine v_ask (as := [.int (xs (i + 1).toNatClampNeg), .int (xs (i + 2).toNatClampNeg)]) C dL_law_1496 lv_L_164 ck_7 (kX7_stick (xs (i + 1).toNatClampNeg) (xs (i + 2).toNatClampNeg) σ) (by decide) rfl (Nat.le_of_ble_eq_true rfl) e1 ?_
  refine v_aload_n 2 C dL_law_1499 rfl ?_
  refine v_aload_n 4 C dL_law_1500 rfl ?_
  refine v_iload 0 C dL_law_1501 rfl ?_
  refine v_iconst (v := 1) C dL_law_1503 (by decide) ?_
  refine v_iadd C dL_law_1504 ?_
  refine v_sld C hs hi.2.1 dL_law_1505 ?_
  refine v_aload_n 4 C dL_law_1506 rfl ?_
  refine v_iload 0 C dL_law_1507 rfl ?_
  refine v_iconst (v := 2) C dL_law_1509 (by decide) ?_
  refine v_iadd C dL_law_1510 ?_
  refine v_sld C hs hi.2.2.1 dL_law_1511 ?_
  refine v_ask (as := [.int (xs (i + 1).toNatClampNeg), .int (xs (i + 2).toNatClampNeg)]) C dL_law_1512 lv_L_167 ck_8 (kX8_stick (xs (i + 1).toNatClampNeg) (xs (i + 2).toNatClampNeg) σ1) (by decide) rfl (Nat.le_of_ble_eq_true rfl) e2 ?_
  exact v_icmp_eq_b (tgt := 1665) C dL_law_1515 (by decide) (fun _ => k σ2 hR2) (fun h => absurd rfl h)
set_option maxRecDepth 20000 in
theorem lc_36 (C : Ok X RL cL_law 7 12) (hs : Sc X b L xs) (hi : Inx i L) (hR : Rel σ N) (hN : N ≤ 600) (k : ∀ σ' : St, Rel σ' (N + 1) → V X g 1665 (lvL X b i) [] σ' res) : V X g 1520 (lvL X b i) [] σ res := by
  obtain ⟨r, σ1, σ2, e1, e2, hR2⟩ := act_ticks (xs (i + 1).toNatClampNeg) σ N hR hN
  unfold lvL
  refine v_aload_n 3 C dL_law_1520 rfl ?_
  refine v_aload_n 4 C dL_law_1521 rfl ?_
  refine v_iload 0 C dL_law_1522 rfl ?_
  refine v_iconst (v := 1) C dL_law_1524 (by decide) ?_
  refine v_iadd C dL_law_1525 ?_
  refine v_sld C hs hi.2.1 dL_law_1526 ?_
  refine v_ask (as := [.int (xs (i + 1).toNatClampNeg)]) C dL_law_1527 lv_L_168 ck_7 (kX7_ticks (xs (i + 1).toNatClampNeg) σ) (by decide) rfl (Nat.le_of_ble_eq_true rfl) e1 ?_
  refine v_aload_n 2 C dL_law_1530 rfl ?_
  refine v_aload_n 4 C dL_law_1531 rfl ?_
  refine v_iload 0 C dL_law_1532 rfl ?_
  refine v_iconst (v := 1) C dL_law_1534 (by decide) ?_
  refine v_iadd C dL_law_1535 ?_
  refine v_sld C hs hi.2.1 dL_law_1536 ?_
  refine v_ask (as := [.int (xs (i + 1).toNatClampNeg)]) C dL_law_1537 lv_L_171 ck_8 (kX8_ticks (xs (i + 1).toNatClampNeg) σ1) (by decide) rfl (Nat.le_of_ble_eq_true rfl) e2 ?_
  exact v_icmp_eq_b (tgt := 1665) C dL_law_1540 (by decide) (fun _ => k σ2 hR2) (fun h => absurd rfl h)
set_option maxRecDepth 20000 in
theorem lc_37 (C : Ok X RL cL_law 7 12) (hs : Sc X b L xs) (hi : Inx i L) (hR : Rel σ N) (hN : N ≤ 600) (k : ∀ σ' : St, Rel σ' (N + 1) → V X g 1665 (lvL X b i) [] σ' res) : V X g 1545 (lvL X b i) [] σ res := by
  obtain ⟨r, σ1, σ2, e1, e2, hR2⟩ := act_keep σ N hR hN
  unfold lvL
  refine v_aload_n 3 C dL_law_1545 rfl ?_
  refine v_ask (as := []) C dL_law_1546 lv_L_172 ck_7 (kX7_keep σ) (by decide) rfl (Nat.le_of_ble_eq_true rfl) e1 ?_
  refine v_aload_n 2 C dL_law_1549 rfl ?_
  refine v_ask (as := []) C dL_law_1550 lv_L_176 ck_8 (kX8_keep σ1) (by decide) rfl (Nat.le_of_ble_eq_true rfl) e2 ?_
  exact v_icmp_eq_b (tgt := 1665) C dL_law_1553 (by decide) (fun _ => k σ2 hR2) (fun h => absurd rfl h)
set_option maxRecDepth 20000 in
theorem lc_38 (C : Ok X RL cL_law 7 12) (hs : Sc X b L xs) (hi : Inx i L) (hR : Rel σ N) (hN : N ≤ 600) (k : ∀ σ' : St, Rel σ' (N + 1) → V X g 1665 (lvL X b i) [] σ' res) : V X g 1558 (lvL X b i) [] σ res := by
  obtain ⟨r, σ1, σ2, e1, e2, hR2⟩ := act_back σ N hR hN
  unfold lvL
  refine v_aload_n 3 C dL_law_1558 rfl ?_
  refine v_ask (as := []) C dL_law_1559 lv_L_177 ck_7 (kX7_back σ) (by decide) rfl (Nat.le_of_ble_eq_true rfl) e1 ?_
  refine v_aload_n 2 C dL_law_1562 rfl ?_
  refine v_ask (as := []) C dL_law_1563 lv_L_180 ck_8 (kX8_back σ1) (by decide) rfl (Nat.le_of_ble_eq_true rfl) e2 ?_
  exact v_icmp_eq_b (tgt := 1665) C dL_law_1566 (by decide) (fun _ => k σ2 hR2) (fun h => absurd rfl h)
set_option maxRecDepth 20000 in
theorem lc_40 (C : Ok X RL cL_law 7 12) (hs : Sc X b L xs) (hi : Inx i L) (hR : Rel σ N) (hN : N ≤ 600) (k : ∀ σ' : St, Rel σ' (N + 1) → V X g 1665 (lvL X b i) [] σ' res) : V X g 1627 (lvL X b i) [] σ res := by
  obtain ⟨r, σ1, σ2, e1, e2, hR2⟩ := act_size (xs (i + 1).toNatClampNeg) σ N hR hN
  unfold lvL
  refine v_aload_n 3 C dL_law_1627 rfl ?_
  refine v_aload_n 4 C dL_law_1628 rfl ?_
  refine v_iload 0 C dL_law_1629 rfl ?_
  refine v_iconst (v := 1) C dL_law_1631 (by decide) ?_
  refine v_iadd C dL_law_1632 ?_
  refine v_sld C hs hi.2.1 dL_law_1633 ?_
  refine v_ask (as := [.int (xs (i + 1).toNatClampNeg)]) C dL_law_1634 lv_L_190 ck_7 (kX7_size (xs (i + 1).toNatClampNeg) σ) (by decide) rfl (Nat.le_of_ble_eq_true rfl) e1 ?_
  refine v_aload_n 2 C dL_law_1637 rfl ?_
  refine v_aload_n 4 C dL_law_1638 rfl ?_
  refine v_iload 0 C dL_law_1639 rfl ?_
  refine v_iconst (v := 1) C dL_law_1641 (by decide) ?_
  refine v_iadd C dL_law_1642 ?_
  refine v_sld C hs hi.2.1 dL_law_1643 ?_
  refine v_ask (as := [.int (xs (i + 1).toNatClampNeg)]) C dL_law_1644 lv_L_193 ck_8 (kX8_size (xs (i + 1).toNatClampNeg) σ1) (by decide) rfl (Nat.le_of_ble_eq_true rfl) e2 ?_
  exact v_icmp_eq_b (tgt := 1665) C dL_law_1647 (by decide) (fun _ => k σ2 hR2) (fun h => absurd rfl h)
set_option maxRecDepth 20000 in
theorem lc_41 (C : Ok X RL cL_law 7 12) (hs : Sc X b L xs) (hi : Inx i L) (hR : Rel σ N) (hN : N ≤ 600) (k : ∀ σ' : St, Rel σ' (N + 1) → V X g 1665 (lvL X b i) [] σ' res) : V X g 1652 (lvL X b i) [] σ res := by
  obtain ⟨r, σ1, σ2, e1, e2, hR2⟩ := act_trouble σ N hR hN
  unfold lvL
  refine v_aload_n 3 C dL_law_1652 rfl ?_
  refine v_ask (as := []) C dL_law_1653 lv_L_194 ck_7 (kX7_trouble σ) (by decide) rfl (Nat.le_of_ble_eq_true rfl) e1 ?_
  refine v_aload_n 2 C dL_law_1656 rfl ?_
  refine v_ask (as := []) C dL_law_1657 lv_L_197 ck_8 (kX8_trouble σ1) (by decide) rfl (Nat.le_of_ble_eq_true rfl) e2 ?_
  exact v_icmp_eq_b (tgt := 1665) C dL_law_1660 (by decide) (fun _ => k σ2 hR2) (fun h => absurd rfl h)
end CASES
