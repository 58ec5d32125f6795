/-! the law's cases -/
theorem lwc_0 {g : GE} {b : Nat} {m : Mem} {i : Int32} (hi : ∀ k : Nat, k < 6 → inb (i + nI k) g.2.2.2.2.1) (R : RR m) (kk : ∀ m2, RR m2 → V g Y_law 2017 [some (vr 3000), some (vr 1), some (vr 298), some (vi i)] [] m2 (ZL g b)) : V g Y_law 268 [some (vr 3000), some (vr 1), some (vr 298), some (vi i)] [] m (ZL g b) := by
  obtain ⟨r, m1, m2, e1, e2, R2⟩ := st_feed (fun j => [(g.2.2.2.2.2 (ix (i + 1))), (g.2.2.2.2.2 (ix (i + 2))), (g.2.2.2.2.2 (ix (i + 3))), (g.2.2.2.2.2 (ix (i + 4))), (g.2.2.2.2.2 (ix (i + 5)))].getD j 0) m R
  have e1 : PL_feed 1 (g.2.2.2.2.2 (ix (i + 1))) (g.2.2.2.2.2 (ix (i + 2))) (g.2.2.2.2.2 (ix (i + 3))) (g.2.2.2.2.2 (ix (i + 4))) (g.2.2.2.2.2 (ix (i + 5))) _ = some (r, _) := e1
  have e2 : Mo_feed 298 (g.2.2.2.2.2 (ix (i + 1))) (g.2.2.2.2.2 (ix (i + 2))) (g.2.2.2.2.2 (ix (i + 3))) (g.2.2.2.2.2 (ix (i + 4))) (g.2.2.2.2.2 (ix (i + 5))) _ = some (r, _) := e2
  refine V_aload_n (i := 1) (pc := 268) dL_law_268 rfl rfl ?_
  refine V_aload_n (i := 0) (pc := 269) dL_law_269 rfl rfl ?_
  refine V_iload_n (i := 3) (pc := 270) dL_law_270 rfl rfl ?_
  refine V_iconst (v := 1) (pc := 271) dL_law_271 rfl ?_
  refine V_iadd (pc := 272) dL_law_272 ?_
  refine V_sld (pc := 273) dL_law_273 (hi 1 (by decide)) ?_
  refine V_aload_n (i := 0) (pc := 274) dL_law_274 rfl rfl ?_
  refine V_iload_n (i := 3) (pc := 275) dL_law_275 rfl rfl ?_
  refine V_iconst (v := 2) (pc := 276) dL_law_276 rfl ?_
  refine V_iadd (pc := 277) dL_law_277 ?_
  refine V_sld (pc := 278) dL_law_278 (hi 2 (by decide)) ?_
  refine V_aload_n (i := 0) (pc := 279) dL_law_279 rfl rfl ?_
  refine V_iload_n (i := 3) (pc := 280) dL_law_280 rfl rfl ?_
  refine V_iconst (v := 3) (pc := 281) dL_law_281 rfl ?_
  refine V_iadd (pc := 282) dL_law_282 ?_
  refine V_sld (pc := 283) dL_law_283 (hi 3 (by decide)) ?_
  refine V_aload_n (i := 0) (pc := 284) dL_law_284 rfl rfl ?_
  refine V_iload_n (i := 3) (pc := 285) dL_law_285 rfl rfl ?_
  refine V_iconst (v := 4) (pc := 286) dL_law_286 rfl ?_
  refine V_iadd (pc := 287) dL_law_287 ?_
  refine V_sld (pc := 288) dL_law_288 (hi 4 (by decide)) ?_
  refine V_aload_n (i := 0) (pc := 289) dL_law_289 rfl rfl ?_
  refine V_iload_n (i := 3) (pc := 290) dL_law_290 rfl rfl ?_
  refine V_iconst (v := 5) (pc := 291) dL_law_291 rfl ?_
  refine V_iadd (pc := 292) dL_law_292 ?_
  refine V_sld (pc := 293) dL_law_293 (hi 5 (by decide)) ?_
  refine V_invV1 (c := 10) (pc := 294) dL_law_294 (e_PL_feed kd1 e1) iv_La_13 (rmL (Nat.le_of_ble_eq_true rfl) (Nat.le_of_ble_eq_true rfl)) rfl kd1 cf_10 rfl (Nat.le_of_ble_eq_true rfl) rfl ?_
  refine V_aload_n (i := 2) (pc := 297) dL_law_297 rfl rfl ?_
  refine V_aload_n (i := 0) (pc := 298) dL_law_298 rfl rfl ?_
  refine V_iload_n (i := 3) (pc := 299) dL_law_299 rfl rfl ?_
  refine V_iconst (v := 1) (pc := 300) dL_law_300 rfl ?_
  refine V_iadd (pc := 301) dL_law_301 ?_
  refine V_sld (pc := 302) dL_law_302 (hi 1 (by decide)) ?_
  refine V_aload_n (i := 0) (pc := 303) dL_law_303 rfl rfl ?_
  refine V_iload_n (i := 3) (pc := 304) dL_law_304 rfl rfl ?_
  refine V_iconst (v := 2) (pc := 305) dL_law_305 rfl ?_
  refine V_iadd (pc := 306) dL_law_306 ?_
  refine V_sld (pc := 307) dL_law_307 (hi 2 (by decide)) ?_
  refine V_aload_n (i := 0) (pc := 308) dL_law_308 rfl rfl ?_
  refine V_iload_n (i := 3) (pc := 309) dL_law_309 rfl rfl ?_
  refine V_iconst (v := 3) (pc := 310) dL_law_310 rfl ?_
  refine V_iadd (pc := 311) dL_law_311 ?_
  refine V_sld (pc := 312) dL_law_312 (hi 3 (by decide)) ?_
  refine V_aload_n (i := 0) (pc := 313) dL_law_313 rfl rfl ?_
  refine V_iload_n (i := 3) (pc := 314) dL_law_314 rfl rfl ?_
  refine V_iconst (v := 4) (pc := 315) dL_law_315 rfl ?_
  refine V_iadd (pc := 316) dL_law_316 ?_
  refine V_sld (pc := 317) dL_law_317 (hi 4 (by decide)) ?_
  refine V_aload_n (i := 0) (pc := 318) dL_law_318 rfl rfl ?_
  refine V_iload_n (i := 3) (pc := 319) dL_law_319 rfl rfl ?_
  refine V_iconst (v := 5) (pc := 320) dL_law_320 rfl ?_
  refine V_iadd (pc := 321) dL_law_321 ?_
  refine V_sld (pc := 322) dL_law_322 (hi 5 (by decide)) ?_
  refine V_invV1 (c := 11) (pc := 323) dL_law_323 (e_Mo_feed kd298 e2) iv_La_17 (rmL (Nat.le_of_ble_eq_true rfl) (Nat.le_of_ble_eq_true rfl)) rfl kd298 cf_11 rfl (Nat.le_of_ble_eq_true rfl) rfl ?_
  exact V_icmp_eq (tgt := 2017) (pc := 326) dL_law_326 rfl (fun _ => kk _ R2) (fun q => absurd rfl q)
theorem lwc_1 {g : GE} {b : Nat} {m : Mem} {i : Int32} (hi : ∀ k : Nat, k < 6 → inb (i + nI k) g.2.2.2.2.1) (R : RR m) (kk : ∀ m2, RR m2 → V g Y_law 2017 [some (vr 3000), some (vr 1), some (vr 298), some (vi i)] [] m2 (ZL g b)) : V g Y_law 331 [some (vr 3000), some (vr 1), some (vr 298), some (vi i)] [] m (ZL g b) := by
  obtain ⟨r, m1, m2, e1, e2, R2⟩ := st_end (g.2.2.2.2.2 (ix (i + 1))) m R
  have e1 : PL_end 1 (g.2.2.2.2.2 (ix (i + 1))) _ = some (r, _) := e1
  have e2 : Mo_end 298 (g.2.2.2.2.2 (ix (i + 1))) _ = some (r, _) := e2
  refine V_aload_n (i := 1) (pc := 331) dL_law_331 rfl rfl ?_
  refine V_aload_n (i := 0) (pc := 332) dL_law_332 rfl rfl ?_
  refine V_iload_n (i := 3) (pc := 333) dL_law_333 rfl rfl ?_
  refine V_iconst (v := 1) (pc := 334) dL_law_334 rfl ?_
  refine V_iadd (pc := 335) dL_law_335 ?_
  refine V_sld (pc := 336) dL_law_336 (hi 1 (by decide)) ?_
  refine V_invV1 (c := 10) (pc := 337) dL_law_337 (e_PL_end kd1 e1) iv_La_18 (rmL (Nat.le_of_ble_eq_true rfl) (Nat.le_of_ble_eq_true rfl)) rfl kd1 cf_10 rfl (Nat.le_of_ble_eq_true rfl) rfl ?_
  refine V_aload_n (i := 2) (pc := 340) dL_law_340 rfl rfl ?_
  refine V_aload_n (i := 0) (pc := 341) dL_law_341 rfl rfl ?_
  refine V_iload_n (i := 3) (pc := 342) dL_law_342 rfl rfl ?_
  refine V_iconst (v := 1) (pc := 343) dL_law_343 rfl ?_
  refine V_iadd (pc := 344) dL_law_344 ?_
  refine V_sld (pc := 345) dL_law_345 (hi 1 (by decide)) ?_
  refine V_invV1 (c := 11) (pc := 346) dL_law_346 (e_Mo_end kd298 e2) iv_La_22 (rmL (Nat.le_of_ble_eq_true rfl) (Nat.le_of_ble_eq_true rfl)) rfl kd298 cf_11 rfl (Nat.le_of_ble_eq_true rfl) rfl ?_
  exact V_icmp_eq (tgt := 2017) (pc := 349) dL_law_349 rfl (fun _ => kk _ R2) (fun q => absurd rfl q)
theorem lwc_2 {g : GE} {b : Nat} {m : Mem} {i : Int32} (hi : ∀ k : Nat, k < 6 → inb (i + nI k) g.2.2.2.2.1) (R : RR m) (kk : ∀ m2, RR m2 → V g Y_law 2017 [some (vr 3000), some (vr 1), some (vr 298), some (vi i)] [] m2 (ZL g b)) : V g Y_law 354 [some (vr 3000), some (vr 1), some (vr 298), some (vi i)] [] m (ZL g b) := by
  obtain ⟨r, m1, m2, e1, e2, R2⟩ := st_floe m R
  have e1 : PL_floe 1 _ = some (r, _) := e1
  have e2 : Mo_floe 298 _ = some (r, _) := e2
  refine V_aload_n (i := 1) (pc := 354) dL_law_354 rfl rfl ?_
  refine V_invV1 (c := 10) (pc := 355) dL_law_355 (e_PL_floe kd1 e1) iv_La_23 (rmL (Nat.le_of_ble_eq_true rfl) (Nat.le_of_ble_eq_true rfl)) rfl kd1 cf_10 rfl (Nat.le_of_ble_eq_true rfl) rfl ?_
  refine V_aload_n (i := 2) (pc := 358) dL_law_358 rfl rfl ?_
  refine V_invV1 (c := 11) (pc := 359) dL_law_359 (e_Mo_floe kd298 e2) iv_La_27 (rmL (Nat.le_of_ble_eq_true rfl) (Nat.le_of_ble_eq_true rfl)) rfl kd298 cf_11 rfl (Nat.le_of_ble_eq_true rfl) rfl ?_
  exact V_icmp_eq (tgt := 2017) (pc := 362) dL_law_362 rfl (fun _ => kk _ R2) (fun q => absurd rfl q)
theorem lwc_3 {g : GE} {b : Nat} {m : Mem} {i : Int32} (hi : ∀ k : Nat, k < 6 → inb (i + nI k) g.2.2.2.2.1) (R : RR m) (kk : ∀ m2, RR m2 → V g Y_law 2017 [some (vr 3000), some (vr 1), some (vr 298), some (vi i)] [] m2 (ZL g b)) : V g Y_law 367 [some (vr 3000), some (vr 1), some (vr 298), some (vi i)] [] m (ZL g b) := by
  obtain ⟨r, m1, m2, e1, e2, R2⟩ := st_fault (g.2.2.2.2.2 (ix (i + 1))) m R
  obtain ⟨e1, h1⟩ := rd_o e1
  subst h1
  obtain ⟨e2, h2⟩ := rd_o e2
  subst h2
  have e1 : PL_fault 1 (g.2.2.2.2.2 (ix (i + 1))) _ = some r := e1
  have e2 : Mo_fault 298 (g.2.2.2.2.2 (ix (i + 1))) _ = some r := e2
  refine V_aload_n (i := 1) (pc := 367) dL_law_367 rfl rfl ?_
  refine V_aload_n (i := 0) (pc := 368) dL_law_368 rfl rfl ?_
  refine V_iload_n (i := 3) (pc := 369) dL_law_369 rfl rfl ?_
  refine V_iconst (v := 1) (pc := 370) dL_law_370 rfl ?_
  refine V_iadd (pc := 371) dL_law_371 ?_
  refine V_sld (pc := 372) dL_law_372 (hi 1 (by decide)) ?_
  refine V_invV1 (c := 10) (pc := 373) dL_law_373 (e_PL_fault kd1 e1) iv_La_28 (rmL (Nat.le_of_ble_eq_true rfl) (Nat.le_of_ble_eq_true rfl)) rfl kd1 cf_10 rfl (Nat.le_of_ble_eq_true rfl) rfl ?_
  refine V_aload_n (i := 2) (pc := 376) dL_law_376 rfl rfl ?_
  refine V_aload_n (i := 0) (pc := 377) dL_law_377 rfl rfl ?_
  refine V_iload_n (i := 3) (pc := 378) dL_law_378 rfl rfl ?_
  refine V_iconst (v := 1) (pc := 379) dL_law_379 rfl ?_
  refine V_iadd (pc := 380) dL_law_380 ?_
  refine V_sld (pc := 381) dL_law_381 (hi 1 (by decide)) ?_
  refine V_invV1 (c := 11) (pc := 382) dL_law_382 (e_Mo_fault kd298 e2) iv_La_31 (rmL (Nat.le_of_ble_eq_true rfl) (Nat.le_of_ble_eq_true rfl)) rfl kd298 cf_11 rfl (Nat.le_of_ble_eq_true rfl) rfl ?_
  exact V_icmp_eq (tgt := 2017) (pc := 385) dL_law_385 rfl (fun _ => kk _ R2) (fun q => absurd rfl q)
theorem lwc_4 {g : GE} {b : Nat} {m : Mem} {i : Int32} (hi : ∀ k : Nat, k < 6 → inb (i + nI k) g.2.2.2.2.1) (R : RR m) (kk : ∀ m2, RR m2 → V g Y_law 2017 [some (vr 3000), some (vr 1), some (vr 298), some (vi i)] [] m2 (ZL g b)) : V g Y_law 390 [some (vr 3000), some (vr 1), some (vr 298), some (vi i)] [] m (ZL g b) := by
  obtain ⟨r, m1, m2, e1, e2, R2⟩ := st_heap (g.2.2.2.2.2 (ix (i + 1))) (g.2.2.2.2.2 (ix (i + 2))) (g.2.2.2.2.2 (ix (i + 3))) m R
  have e1 : PL_heap 1 (g.2.2.2.2.2 (ix (i + 1))) (g.2.2.2.2.2 (ix (i + 2))) (g.2.2.2.2.2 (ix (i + 3))) _ = some (r, _) := e1
  have e2 : Mo_heap 298 (g.2.2.2.2.2 (ix (i + 1))) (g.2.2.2.2.2 (ix (i + 2))) (g.2.2.2.2.2 (ix (i + 3))) _ = some (r, _) := e2
  refine V_aload_n (i := 1) (pc := 390) dL_law_390 rfl rfl ?_
  refine V_aload_n (i := 0) (pc := 391) dL_law_391 rfl rfl ?_
  refine V_iload_n (i := 3) (pc := 392) dL_law_392 rfl rfl ?_
  refine V_iconst (v := 1) (pc := 393) dL_law_393 rfl ?_
  refine V_iadd (pc := 394) dL_law_394 ?_
  refine V_sld (pc := 395) dL_law_395 (hi 1 (by decide)) ?_
  refine V_aload_n (i := 0) (pc := 396) dL_law_396 rfl rfl ?_
  refine V_iload_n (i := 3) (pc := 397) dL_law_397 rfl rfl ?_
  refine V_iconst (v := 2) (pc := 398) dL_law_398 rfl ?_
  refine V_iadd (pc := 399) dL_law_399 ?_
  refine V_sld (pc := 400) dL_law_400 (hi 2 (by decide)) ?_
  refine V_aload_n (i := 0) (pc := 401) dL_law_401 rfl rfl ?_
  refine V_iload_n (i := 3) (pc := 402) dL_law_402 rfl rfl ?_
  refine V_iconst (v := 3) (pc := 403) dL_law_403 rfl ?_
  refine V_iadd (pc := 404) dL_law_404 ?_
  refine V_sld (pc := 405) dL_law_405 (hi 3 (by decide)) ?_
  refine V_invV1 (c := 10) (pc := 406) dL_law_406 (e_PL_heap kd1 e1) iv_La_32 (rmL (Nat.le_of_ble_eq_true rfl) (Nat.le_of_ble_eq_true rfl)) rfl kd1 cf_10 rfl (Nat.le_of_ble_eq_true rfl) rfl ?_
  refine V_aload_n (i := 2) (pc := 409) dL_law_409 rfl rfl ?_
  refine V_aload_n (i := 0) (pc := 410) dL_law_410 rfl rfl ?_
  refine V_iload_n (i := 3) (pc := 411) dL_law_411 rfl rfl ?_
  refine V_iconst (v := 1) (pc := 412) dL_law_412 rfl ?_
  refine V_iadd (pc := 413) dL_law_413 ?_
  refine V_sld (pc := 414) dL_law_414 (hi 1 (by decide)) ?_
  refine V_aload_n (i := 0) (pc := 415) dL_law_415 rfl rfl ?_
  refine V_iload_n (i := 3) (pc := 416) dL_law_416 rfl rfl ?_
  refine V_iconst (v := 2) (pc := 417) dL_law_417 rfl ?_
  refine V_iadd (pc := 418) dL_law_418 ?_
  refine V_sld (pc := 419) dL_law_419 (hi 2 (by decide)) ?_
  refine V_aload_n (i := 0) (pc := 420) dL_law_420 rfl rfl ?_
  refine V_iload_n (i := 3) (pc := 421) dL_law_421 rfl rfl ?_
  refine V_iconst (v := 3) (pc := 422) dL_law_422 rfl ?_
  refine V_iadd (pc := 423) dL_law_423 ?_
  refine V_sld (pc := 424) dL_law_424 (hi 3 (by decide)) ?_
  refine V_invV1 (c := 11) (pc := 425) dL_law_425 (e_Mo_heap kd298 e2) iv_La_36 (rmL (Nat.le_of_ble_eq_true rfl) (Nat.le_of_ble_eq_true rfl)) rfl kd298 cf_11 rfl (Nat.le_of_ble_eq_true rfl) rfl ?_
  exact V_icmp_eq (tgt := 2017) (pc := 428) dL_law_428 rfl (fun _ => kk _ R2) (fun q => absurd rfl q)
theorem lwc_5 {g : GE} {b : Nat} {m : Mem} {i : Int32} (hi : ∀ k : Nat, k < 6 → inb (i + nI k) g.2.2.2.2.1) (R : RR m) (kk : ∀ m2, RR m2 → V g Y_law 2017 [some (vr 3000), some (vr 1), some (vr 298), some (vi i)] [] m2 (ZL g b)) : V g Y_law 433 [some (vr 3000), some (vr 1), some (vr 298), some (vi i)] [] m (ZL g b) := by
  obtain ⟨r, m1, m2, e1, e2, R2⟩ := st_put (g.2.2.2.2.2 (ix (i + 1))) (g.2.2.2.2.2 (ix (i + 2))) (g.2.2.2.2.2 (ix (i + 3))) m R
  have e1 : PL_put 1 (g.2.2.2.2.2 (ix (i + 1))) (g.2.2.2.2.2 (ix (i + 2))) (g.2.2.2.2.2 (ix (i + 3))) _ = some (r, _) := e1
  have e2 : Mo_put 298 (g.2.2.2.2.2 (ix (i + 1))) (g.2.2.2.2.2 (ix (i + 2))) (g.2.2.2.2.2 (ix (i + 3))) _ = some (r, _) := e2
  refine V_aload_n (i := 1) (pc := 433) dL_law_433 rfl rfl ?_
  refine V_aload_n (i := 0) (pc := 434) dL_law_434 rfl rfl ?_
  refine V_iload_n (i := 3) (pc := 435) dL_law_435 rfl rfl ?_
  refine V_iconst (v := 1) (pc := 436) dL_law_436 rfl ?_
  refine V_iadd (pc := 437) dL_law_437 ?_
  refine V_sld (pc := 438) dL_law_438 (hi 1 (by decide)) ?_
  refine V_aload_n (i := 0) (pc := 439) dL_law_439 rfl rfl ?_
  refine V_iload_n (i := 3) (pc := 440) dL_law_440 rfl rfl ?_
  refine V_iconst (v := 2) (pc := 441) dL_law_441 rfl ?_
  refine V_iadd (pc := 442) dL_law_442 ?_
  refine V_sld (pc := 443) dL_law_443 (hi 2 (by decide)) ?_
  refine V_aload_n (i := 0) (pc := 444) dL_law_444 rfl rfl ?_
  refine V_iload_n (i := 3) (pc := 445) dL_law_445 rfl rfl ?_
  refine V_iconst (v := 3) (pc := 446) dL_law_446 rfl ?_
  refine V_iadd (pc := 447) dL_law_447 ?_
  refine V_sld (pc := 448) dL_law_448 (hi 3 (by decide)) ?_
  refine V_invV1 (c := 10) (pc := 449) dL_law_449 (e_PL_put kd1 e1) iv_La_37 (rmL (Nat.le_of_ble_eq_true rfl) (Nat.le_of_ble_eq_true rfl)) rfl kd1 cf_10 rfl (Nat.le_of_ble_eq_true rfl) rfl ?_
  refine V_aload_n (i := 2) (pc := 452) dL_law_452 rfl rfl ?_
  refine V_aload_n (i := 0) (pc := 453) dL_law_453 rfl rfl ?_
  refine V_iload_n (i := 3) (pc := 454) dL_law_454 rfl rfl ?_
  refine V_iconst (v := 1) (pc := 455) dL_law_455 rfl ?_
  refine V_iadd (pc := 456) dL_law_456 ?_
  refine V_sld (pc := 457) dL_law_457 (hi 1 (by decide)) ?_
  refine V_aload_n (i := 0) (pc := 458) dL_law_458 rfl rfl ?_
  refine V_iload_n (i := 3) (pc := 459) dL_law_459 rfl rfl ?_
  refine V_iconst (v := 2) (pc := 460) dL_law_460 rfl ?_
  refine V_iadd (pc := 461) dL_law_461 ?_
  refine V_sld (pc := 462) dL_law_462 (hi 2 (by decide)) ?_
  refine V_aload_n (i := 0) (pc := 463) dL_law_463 rfl rfl ?_
  refine V_iload_n (i := 3) (pc := 464) dL_law_464 rfl rfl ?_
  refine V_iconst (v := 3) (pc := 465) dL_law_465 rfl ?_
  refine V_iadd (pc := 466) dL_law_466 ?_
  refine V_sld (pc := 467) dL_law_467 (hi 3 (by decide)) ?_
  refine V_invV1 (c := 11) (pc := 468) dL_law_468 (e_Mo_put kd298 e2) iv_La_40 (rmL (Nat.le_of_ble_eq_true rfl) (Nat.le_of_ble_eq_true rfl)) rfl kd298 cf_11 rfl (Nat.le_of_ble_eq_true rfl) rfl ?_
  exact V_icmp_eq (tgt := 2017) (pc := 471) dL_law_471 rfl (fun _ => kk _ R2) (fun q => absurd rfl q)
theorem lwc_6 {g : GE} {b : Nat} {m : Mem} {i : Int32} (hi : ∀ k : Nat, k < 6 → inb (i + nI k) g.2.2.2.2.1) (R : RR m) (kk : ∀ m2, RR m2 → V g Y_law 2017 [some (vr 3000), some (vr 1), some (vr 298), some (vi i)] [] m2 (ZL g b)) : V g Y_law 476 [some (vr 3000), some (vr 1), some (vr 298), some (vi i)] [] m (ZL g b) := by
  obtain ⟨r, m1, m2, e1, e2, R2⟩ := st_sleep (g.2.2.2.2.2 (ix (i + 1))) (g.2.2.2.2.2 (ix (i + 2))) (g.2.2.2.2.2 (ix (i + 3))) (g.2.2.2.2.2 (ix (i + 4))) m R
  have e1 : PL_sleep 1 (g.2.2.2.2.2 (ix (i + 1))) (g.2.2.2.2.2 (ix (i + 2))) (g.2.2.2.2.2 (ix (i + 3))) (g.2.2.2.2.2 (ix (i + 4))) _ = some (r, _) := e1
  have e2 : Mo_sleep 298 (g.2.2.2.2.2 (ix (i + 1))) (g.2.2.2.2.2 (ix (i + 2))) (g.2.2.2.2.2 (ix (i + 3))) (g.2.2.2.2.2 (ix (i + 4))) _ = some (r, _) := e2
  refine V_aload_n (i := 1) (pc := 476) dL_law_476 rfl rfl ?_
  refine V_aload_n (i := 0) (pc := 477) dL_law_477 rfl rfl ?_
  refine V_iload_n (i := 3) (pc := 478) dL_law_478 rfl rfl ?_
  refine V_iconst (v := 1) (pc := 479) dL_law_479 rfl ?_
  refine V_iadd (pc := 480) dL_law_480 ?_
  refine V_sld (pc := 481) dL_law_481 (hi 1 (by decide)) ?_
  refine V_aload_n (i := 0) (pc := 482) dL_law_482 rfl rfl ?_
  refine V_iload_n (i := 3) (pc := 483) dL_law_483 rfl rfl ?_
  refine V_iconst (v := 2) (pc := 484) dL_law_484 rfl ?_
  refine V_iadd (pc := 485) dL_law_485 ?_
  refine V_sld (pc := 486) dL_law_486 (hi 2 (by decide)) ?_
  refine V_aload_n (i := 0) (pc := 487) dL_law_487 rfl rfl ?_
  refine V_iload_n (i := 3) (pc := 488) dL_law_488 rfl rfl ?_
  refine V_iconst (v := 3) (pc := 489) dL_law_489 rfl ?_
  refine V_iadd (pc := 490) dL_law_490 ?_
  refine V_sld (pc := 491) dL_law_491 (hi 3 (by decide)) ?_
  refine V_aload_n (i := 0) (pc := 492) dL_law_492 rfl rfl ?_
  refine V_iload_n (i := 3) (pc := 493) dL_law_493 rfl rfl ?_
  refine V_iconst (v := 4) (pc := 494) dL_law_494 rfl ?_
  refine V_iadd (pc := 495) dL_law_495 ?_
  refine V_sld (pc := 496) dL_law_496 (hi 4 (by decide)) ?_
  refine V_invV1 (c := 10) (pc := 497) dL_law_497 (e_PL_sleep kd1 e1) iv_La_41 (rmL (Nat.le_of_ble_eq_true rfl) (Nat.le_of_ble_eq_true rfl)) rfl kd1 cf_10 rfl (Nat.le_of_ble_eq_true rfl) rfl ?_
  refine V_aload_n (i := 2) (pc := 500) dL_law_500 rfl rfl ?_
  refine V_aload_n (i := 0) (pc := 501) dL_law_501 rfl rfl ?_
  refine V_iload_n (i := 3) (pc := 502) dL_law_502 rfl rfl ?_
  refine V_iconst (v := 1) (pc := 503) dL_law_503 rfl ?_
  refine V_iadd (pc := 504) dL_law_504 ?_
  refine V_sld (pc := 505) dL_law_505 (hi 1 (by decide)) ?_
  refine V_aload_n (i := 0) (pc := 506) dL_law_506 rfl rfl ?_
  refine V_iload_n (i := 3) (pc := 507) dL_law_507 rfl rfl ?_
  refine V_iconst (v := 2) (pc := 508) dL_law_508 rfl ?_
  refine V_iadd (pc := 509) dL_law_509 ?_
  refine V_sld (pc := 510) dL_law_510 (hi 2 (by decide)) ?_
  refine V_aload_n (i := 0) (pc := 511) dL_law_511 rfl rfl ?_
  refine V_iload_n (i := 3) (pc := 512) dL_law_512 rfl rfl ?_
  refine V_iconst (v := 3) (pc := 513) dL_law_513 rfl ?_
  refine V_iadd (pc := 514) dL_law_514 ?_
  refine V_sld (pc := 515) dL_law_515 (hi 3 (by decide)) ?_
  refine V_aload_n (i := 0) (pc := 516) dL_law_516 rfl rfl ?_
  refine V_iload_n (i := 3) (pc := 517) dL_law_517 rfl rfl ?_
  refine V_iconst (v := 4) (pc := 518) dL_law_518 rfl ?_
  refine V_iadd (pc := 519) dL_law_519 ?_
  refine V_sld (pc := 520) dL_law_520 (hi 4 (by decide)) ?_
  refine V_invV1 (c := 11) (pc := 521) dL_law_521 (e_Mo_sleep kd298 e2) iv_La_45 (rmL (Nat.le_of_ble_eq_true rfl) (Nat.le_of_ble_eq_true rfl)) rfl kd298 cf_11 rfl (Nat.le_of_ble_eq_true rfl) rfl ?_
  exact V_icmp_eq (tgt := 2017) (pc := 524) dL_law_524 rfl (fun _ => kk _ R2) (fun q => absurd rfl q)
theorem lwc_7 {g : GE} {b : Nat} {m : Mem} {i : Int32} (hi : ∀ k : Nat, k < 6 → inb (i + nI k) g.2.2.2.2.1) (R : RR m) (kk : ∀ m2, RR m2 → V g Y_law 2017 [some (vr 3000), some (vr 1), some (vr 298), some (vi i)] [] m2 (ZL g b)) : V g Y_law 529 [some (vr 3000), some (vr 1), some (vr 298), some (vi i)] [] m (ZL g b) := by
  obtain ⟨r, m1, m2, e1, e2, R2⟩ := st_open (g.2.2.2.2.2 (ix (i + 1))) m R
  have e1 : PL_open 1 (g.2.2.2.2.2 (ix (i + 1))) _ = some (r, _) := e1
  have e2 : Mo_open 298 (g.2.2.2.2.2 (ix (i + 1))) _ = some (r, _) := e2
  refine V_aload_n (i := 1) (pc := 529) dL_law_529 rfl rfl ?_
  refine V_aload_n (i := 0) (pc := 530) dL_law_530 rfl rfl ?_
  refine V_iload_n (i := 3) (pc := 531) dL_law_531 rfl rfl ?_
  refine V_iconst (v := 1) (pc := 532) dL_law_532 rfl ?_
  refine V_iadd (pc := 533) dL_law_533 ?_
  refine V_sld (pc := 534) dL_law_534 (hi 1 (by decide)) ?_
  refine V_invV1 (c := 10) (pc := 535) dL_law_535 (e_PL_open kd1 e1) iv_La_46 (rmL (Nat.le_of_ble_eq_true rfl) (Nat.le_of_ble_eq_true rfl)) rfl kd1 cf_10 rfl (Nat.le_of_ble_eq_true rfl) rfl ?_
  refine V_aload_n (i := 2) (pc := 538) dL_law_538 rfl rfl ?_
  refine V_aload_n (i := 0) (pc := 539) dL_law_539 rfl rfl ?_
  refine V_iload_n (i := 3) (pc := 540) dL_law_540 rfl rfl ?_
  refine V_iconst (v := 1) (pc := 541) dL_law_541 rfl ?_
  refine V_iadd (pc := 542) dL_law_542 ?_
  refine V_sld (pc := 543) dL_law_543 (hi 1 (by decide)) ?_
  refine V_invV1 (c := 11) (pc := 544) dL_law_544 (e_Mo_open kd298 e2) iv_La_49 (rmL (Nat.le_of_ble_eq_true rfl) (Nat.le_of_ble_eq_true rfl)) rfl kd298 cf_11 rfl (Nat.le_of_ble_eq_true rfl) rfl ?_
  exact V_icmp_eq (tgt := 2017) (pc := 547) dL_law_547 rfl (fun _ => kk _ R2) (fun q => absurd rfl q)
theorem lwc_8 {g : GE} {b : Nat} {m : Mem} {i : Int32} (hi : ∀ k : Nat, k < 6 → inb (i + nI k) g.2.2.2.2.1) (R : RR m) (kk : ∀ m2, RR m2 → V g Y_law 2017 [some (vr 3000), some (vr 1), some (vr 298), some (vi i)] [] m2 (ZL g b)) : V g Y_law 552 [some (vr 3000), some (vr 1), some (vr 298), some (vi i)] [] m (ZL g b) := by
  obtain ⟨r, m1, m2, e1, e2, R2⟩ := st_lies (g.2.2.2.2.2 (ix (i + 1))) (g.2.2.2.2.2 (ix (i + 2))) m R
  obtain ⟨e1, h1⟩ := rd_o e1
  subst h1
  obtain ⟨e2, h2⟩ := rd_o e2
  subst h2
  have e1 : PL_lies 1 (g.2.2.2.2.2 (ix (i + 1))) (g.2.2.2.2.2 (ix (i + 2))) _ = some r := e1
  have e2 : Mo_lies 298 (g.2.2.2.2.2 (ix (i + 1))) (g.2.2.2.2.2 (ix (i + 2))) _ = some r := e2
  refine V_aload_n (i := 1) (pc := 552) dL_law_552 rfl rfl ?_
  refine V_aload_n (i := 0) (pc := 553) dL_law_553 rfl rfl ?_
  refine V_iload_n (i := 3) (pc := 554) dL_law_554 rfl rfl ?_
  refine V_iconst (v := 1) (pc := 555) dL_law_555 rfl ?_
  refine V_iadd (pc := 556) dL_law_556 ?_
  refine V_sld (pc := 557) dL_law_557 (hi 1 (by decide)) ?_
  refine V_aload_n (i := 0) (pc := 558) dL_law_558 rfl rfl ?_
  refine V_iload_n (i := 3) (pc := 559) dL_law_559 rfl rfl ?_
  refine V_iconst (v := 2) (pc := 560) dL_law_560 rfl ?_
  refine V_iadd (pc := 561) dL_law_561 ?_
  refine V_sld (pc := 562) dL_law_562 (hi 2 (by decide)) ?_
  refine V_invV1 (c := 10) (pc := 563) dL_law_563 (e_PL_lies kd1 e1) iv_La_50 (rmL (Nat.le_of_ble_eq_true rfl) (Nat.le_of_ble_eq_true rfl)) rfl kd1 cf_10 rfl (Nat.le_of_ble_eq_true rfl) rfl ?_
  refine V_aload_n (i := 2) (pc := 566) dL_law_566 rfl rfl ?_
  refine V_aload_n (i := 0) (pc := 567) dL_law_567 rfl rfl ?_
  refine V_iload_n (i := 3) (pc := 568) dL_law_568 rfl rfl ?_
  refine V_iconst (v := 1) (pc := 569) dL_law_569 rfl ?_
  refine V_iadd (pc := 570) dL_law_570 ?_
  refine V_sld (pc := 571) dL_law_571 (hi 1 (by decide)) ?_
  refine V_aload_n (i := 0) (pc := 572) dL_law_572 rfl rfl ?_
  refine V_iload_n (i := 3) (pc := 573) dL_law_573 rfl rfl ?_
  refine V_iconst (v := 2) (pc := 574) dL_law_574 rfl ?_
  refine V_iadd (pc := 575) dL_law_575 ?_
  refine V_sld (pc := 576) dL_law_576 (hi 2 (by decide)) ?_
  refine V_invV1 (c := 11) (pc := 577) dL_law_577 (e_Mo_lies kd298 e2) iv_La_54 (rmL (Nat.le_of_ble_eq_true rfl) (Nat.le_of_ble_eq_true rfl)) rfl kd298 cf_11 rfl (Nat.le_of_ble_eq_true rfl) rfl ?_
  exact V_icmp_eq (tgt := 2017) (pc := 580) dL_law_580 rfl (fun _ => kk _ R2) (fun q => absurd rfl q)
theorem lwc_9 {g : GE} {b : Nat} {m : Mem} {i : Int32} (hi : ∀ k : Nat, k < 6 → inb (i + nI k) g.2.2.2.2.1) (R : RR m) (kk : ∀ m2, RR m2 → V g Y_law 2017 [some (vr 3000), some (vr 1), some (vr 298), some (vi i)] [] m2 (ZL g b)) : V g Y_law 585 [some (vr 3000), some (vr 1), some (vr 298), some (vi i)] [] m (ZL g b) := by
  obtain ⟨r, m1, m2, e1, e2, R2⟩ := st_near (g.2.2.2.2.2 (ix (i + 1))) m R
  obtain ⟨e1, h1⟩ := rd_o e1
  subst h1
  obtain ⟨e2, h2⟩ := rd_o e2
  subst h2
  have e1 : PL_near 1 (g.2.2.2.2.2 (ix (i + 1))) _ = some r := e1
  have e2 : Mo_near 298 (g.2.2.2.2.2 (ix (i + 1))) _ = some r := e2
  refine V_aload_n (i := 1) (pc := 585) dL_law_585 rfl rfl ?_
  refine V_aload_n (i := 0) (pc := 586) dL_law_586 rfl rfl ?_
  refine V_iload_n (i := 3) (pc := 587) dL_law_587 rfl rfl ?_
  refine V_iconst (v := 1) (pc := 588) dL_law_588 rfl ?_
  refine V_iadd (pc := 589) dL_law_589 ?_
  refine V_sld (pc := 590) dL_law_590 (hi 1 (by decide)) ?_
  refine V_invV1 (c := 10) (pc := 591) dL_law_591 (e_PL_near kd1 e1) iv_La_55 (rmL (Nat.le_of_ble_eq_true rfl) (Nat.le_of_ble_eq_true rfl)) rfl kd1 cf_10 rfl (Nat.le_of_ble_eq_true rfl) rfl ?_
  refine V_aload_n (i := 2) (pc := 594) dL_law_594 rfl rfl ?_
  refine V_aload_n (i := 0) (pc := 595) dL_law_595 rfl rfl ?_
  refine V_iload_n (i := 3) (pc := 596) dL_law_596 rfl rfl ?_
  refine V_iconst (v := 1) (pc := 597) dL_law_597 rfl ?_
  refine V_iadd (pc := 598) dL_law_598 ?_
  refine V_sld (pc := 599) dL_law_599 (hi 1 (by decide)) ?_
  refine V_invV1 (c := 11) (pc := 600) dL_law_600 (e_Mo_near kd298 e2) iv_La_58 (rmL (Nat.le_of_ble_eq_true rfl) (Nat.le_of_ble_eq_true rfl)) rfl kd298 cf_11 rfl (Nat.le_of_ble_eq_true rfl) rfl ?_
  exact V_icmp_eq (tgt := 2017) (pc := 603) dL_law_603 rfl (fun _ => kk _ R2) (fun q => absurd rfl q)
theorem lwc_10 {g : GE} {b : Nat} {m : Mem} {i : Int32} (hi : ∀ k : Nat, k < 6 → inb (i + nI k) g.2.2.2.2.1) (R : RR m) (kk : ∀ m2, RR m2 → V g Y_law 2017 [some (vr 3000), some (vr 1), some (vr 298), some (vi i)] [] m2 (ZL g b)) : V g Y_law 608 [some (vr 3000), some (vr 1), some (vr 298), some (vi i)] [] m (ZL g b) := by
  obtain ⟨r, m1, m2, e1, e2, R2⟩ := st_odds (g.2.2.2.2.2 (ix (i + 1))) m R
  obtain ⟨e1, h1⟩ := rd_o e1
  subst h1
  obtain ⟨e2, h2⟩ := rd_o e2
  subst h2
  have e1 : PL_odds 1 (g.2.2.2.2.2 (ix (i + 1))) _ = some r := e1
  have e2 : Mo_odds 298 (g.2.2.2.2.2 (ix (i + 1))) _ = some r := e2
  refine V_aload_n (i := 1) (pc := 608) dL_law_608 rfl rfl ?_
  refine V_aload_n (i := 0) (pc := 609) dL_law_609 rfl rfl ?_
  refine V_iload_n (i := 3) (pc := 610) dL_law_610 rfl rfl ?_
  refine V_iconst (v := 1) (pc := 611) dL_law_611 rfl ?_
  refine V_iadd (pc := 612) dL_law_612 ?_
  refine V_sld (pc := 613) dL_law_613 (hi 1 (by decide)) ?_
  refine V_invV1 (c := 10) (pc := 614) dL_law_614 (e_PL_odds kd1 e1) iv_La_59 (rmL (Nat.le_of_ble_eq_true rfl) (Nat.le_of_ble_eq_true rfl)) rfl kd1 cf_10 rfl (Nat.le_of_ble_eq_true rfl) rfl ?_
  refine V_aload_n (i := 2) (pc := 617) dL_law_617 rfl rfl ?_
  refine V_aload_n (i := 0) (pc := 618) dL_law_618 rfl rfl ?_
  refine V_iload_n (i := 3) (pc := 619) dL_law_619 rfl rfl ?_
  refine V_iconst (v := 1) (pc := 620) dL_law_620 rfl ?_
  refine V_iadd (pc := 621) dL_law_621 ?_
  refine V_sld (pc := 622) dL_law_622 (hi 1 (by decide)) ?_
  refine V_invV1 (c := 11) (pc := 623) dL_law_623 (e_Mo_odds kd298 e2) iv_La_62 (rmL (Nat.le_of_ble_eq_true rfl) (Nat.le_of_ble_eq_true rfl)) rfl kd298 cf_11 rfl (Nat.le_of_ble_eq_true rfl) rfl ?_
  exact V_icmp_eq (tgt := 2017) (pc := 626) dL_law_626 rfl (fun _ => kk _ R2) (fun q => absurd rfl q)
theorem lwc_11 {g : GE} {b : Nat} {m : Mem} {i : Int32} (hi : ∀ k : Nat, k < 6 → inb (i + nI k) g.2.2.2.2.1) (R : RR m) (kk : ∀ m2, RR m2 → V g Y_law 2017 [some (vr 3000), some (vr 1), some (vr 298), some (vi i)] [] m2 (ZL g b)) : V g Y_law 631 [some (vr 3000), some (vr 1), some (vr 298), some (vi i)] [] m (ZL g b) := by
  obtain ⟨r, m1, m2, e1, e2, R2⟩ := st_piece (g.2.2.2.2.2 (ix (i + 1))) (g.2.2.2.2.2 (ix (i + 2))) (g.2.2.2.2.2 (ix (i + 3))) m R
  obtain ⟨e1, h1⟩ := rd_o e1
  subst h1
  obtain ⟨e2, h2⟩ := rd_o e2
  subst h2
  have e1 : PL_piece 1 (g.2.2.2.2.2 (ix (i + 1))) (g.2.2.2.2.2 (ix (i + 2))) (g.2.2.2.2.2 (ix (i + 3))) _ = some r := e1
  have e2 : Mo_piece 298 (g.2.2.2.2.2 (ix (i + 1))) (g.2.2.2.2.2 (ix (i + 2))) (g.2.2.2.2.2 (ix (i + 3))) _ = some r := e2
  refine V_aload_n (i := 1) (pc := 631) dL_law_631 rfl rfl ?_
  refine V_aload_n (i := 0) (pc := 632) dL_law_632 rfl rfl ?_
  refine V_iload_n (i := 3) (pc := 633) dL_law_633 rfl rfl ?_
  refine V_iconst (v := 1) (pc := 634) dL_law_634 rfl ?_
  refine V_iadd (pc := 635) dL_law_635 ?_
  refine V_sld (pc := 636) dL_law_636 (hi 1 (by decide)) ?_
  refine V_aload_n (i := 0) (pc := 637) dL_law_637 rfl rfl ?_
  refine V_iload_n (i := 3) (pc := 638) dL_law_638 rfl rfl ?_
  refine V_iconst (v := 2) (pc := 639) dL_law_639 rfl ?_
  refine V_iadd (pc := 640) dL_law_640 ?_
  refine V_sld (pc := 641) dL_law_641 (hi 2 (by decide)) ?_
  refine V_aload_n (i := 0) (pc := 642) dL_law_642 rfl rfl ?_
  refine V_iload_n (i := 3) (pc := 643) dL_law_643 rfl rfl ?_
  refine V_iconst (v := 3) (pc := 644) dL_law_644 rfl ?_
  refine V_iadd (pc := 645) dL_law_645 ?_
  refine V_sld (pc := 646) dL_law_646 (hi 3 (by decide)) ?_
  refine V_invV1 (c := 10) (pc := 647) dL_law_647 (e_PL_piece kd1 e1) iv_La_63 (rmL (Nat.le_of_ble_eq_true rfl) (Nat.le_of_ble_eq_true rfl)) rfl kd1 cf_10 rfl (Nat.le_of_ble_eq_true rfl) rfl ?_
  refine V_aload_n (i := 2) (pc := 650) dL_law_650 rfl rfl ?_
  refine V_aload_n (i := 0) (pc := 651) dL_law_651 rfl rfl ?_
  refine V_iload_n (i := 3) (pc := 652) dL_law_652 rfl rfl ?_
  refine V_iconst (v := 1) (pc := 653) dL_law_653 rfl ?_
  refine V_iadd (pc := 654) dL_law_654 ?_
  refine V_sld (pc := 655) dL_law_655 (hi 1 (by decide)) ?_
  refine V_aload_n (i := 0) (pc := 656) dL_law_656 rfl rfl ?_
  refine V_iload_n (i := 3) (pc := 657) dL_law_657 rfl rfl ?_
  refine V_iconst (v := 2) (pc := 658) dL_law_658 rfl ?_
  refine V_iadd (pc := 659) dL_law_659 ?_
  refine V_sld (pc := 660) dL_law_660 (hi 2 (by decide)) ?_
  refine V_aload_n (i := 0) (pc := 661) dL_law_661 rfl rfl ?_
  refine V_iload_n (i := 3) (pc := 662) dL_law_662 rfl rfl ?_
  refine V_iconst (v := 3) (pc := 663) dL_law_663 rfl ?_
  refine V_iadd (pc := 664) dL_law_664 ?_
  refine V_sld (pc := 665) dL_law_665 (hi 3 (by decide)) ?_
  refine V_invV1 (c := 11) (pc := 666) dL_law_666 (e_Mo_piece kd298 e2) iv_La_66 (rmL (Nat.le_of_ble_eq_true rfl) (Nat.le_of_ble_eq_true rfl)) rfl kd298 cf_11 rfl (Nat.le_of_ble_eq_true rfl) rfl ?_
  exact V_icmp_eq (tgt := 2017) (pc := 669) dL_law_669 rfl (fun _ => kk _ R2) (fun q => absurd rfl q)
theorem lwc_12 {g : GE} {b : Nat} {m : Mem} {i : Int32} (hi : ∀ k : Nat, k < 6 → inb (i + nI k) g.2.2.2.2.1) (R : RR m) (kk : ∀ m2, RR m2 → V g Y_law 2017 [some (vr 3000), some (vr 1), some (vr 298), some (vi i)] [] m2 (ZL g b)) : V g Y_law 674 [some (vr 3000), some (vr 1), some (vr 298), some (vi i)] [] m (ZL g b) := by
  obtain ⟨r, m1, m2, e1, e2, R2⟩ := st_pieces (g.2.2.2.2.2 (ix (i + 1))) m R
  obtain ⟨e1, h1⟩ := rd_o e1
  subst h1
  obtain ⟨e2, h2⟩ := rd_o e2
  subst h2
  have e1 : PL_pieces 1 (g.2.2.2.2.2 (ix (i + 1))) _ = some r := e1
  have e2 : Mo_pieces 298 (g.2.2.2.2.2 (ix (i + 1))) _ = some r := e2
  refine V_aload_n (i := 1) (pc := 674) dL_law_674 rfl rfl ?_
  refine V_aload_n (i := 0) (pc := 675) dL_law_675 rfl rfl ?_
  refine V_iload_n (i := 3) (pc := 676) dL_law_676 rfl rfl ?_
  refine V_iconst (v := 1) (pc := 677) dL_law_677 rfl ?_
  refine V_iadd (pc := 678) dL_law_678 ?_
  refine V_sld (pc := 679) dL_law_679 (hi 1 (by decide)) ?_
  refine V_invV1 (c := 10) (pc := 680) dL_law_680 (e_PL_pieces kd1 e1) iv_La_67 (rmL (Nat.le_of_ble_eq_true rfl) (Nat.le_of_ble_eq_true rfl)) rfl kd1 cf_10 rfl (Nat.le_of_ble_eq_true rfl) rfl ?_
  refine V_aload_n (i := 2) (pc := 683) dL_law_683 rfl rfl ?_
  refine V_aload_n (i := 0) (pc := 684) dL_law_684 rfl rfl ?_
  refine V_iload_n (i := 3) (pc := 685) dL_law_685 rfl rfl ?_
  refine V_iconst (v := 1) (pc := 686) dL_law_686 rfl ?_
  refine V_iadd (pc := 687) dL_law_687 ?_
  refine V_sld (pc := 688) dL_law_688 (hi 1 (by decide)) ?_
  refine V_invV1 (c := 11) (pc := 689) dL_law_689 (e_Mo_pieces kd298 e2) iv_La_70 (rmL (Nat.le_of_ble_eq_true rfl) (Nat.le_of_ble_eq_true rfl)) rfl kd298 cf_11 rfl (Nat.le_of_ble_eq_true rfl) rfl ?_
  exact V_icmp_eq (tgt := 2017) (pc := 692) dL_law_692 rfl (fun _ => kk _ R2) (fun q => absurd rfl q)
theorem lwc_13 {g : GE} {b : Nat} {m : Mem} {i : Int32} (hi : ∀ k : Nat, k < 6 → inb (i + nI k) g.2.2.2.2.1) (R : RR m) (kk : ∀ m2, RR m2 → V g Y_law 2017 [some (vr 3000), some (vr 1), some (vr 298), some (vi i)] [] m2 (ZL g b)) : V g Y_law 697 [some (vr 3000), some (vr 1), some (vr 298), some (vi i)] [] m (ZL g b) := by
  obtain ⟨r, m1, m2, e1, e2, R2⟩ := st_part (g.2.2.2.2.2 (ix (i + 1))) m R
  have e1 : PL_part 1 (g.2.2.2.2.2 (ix (i + 1))) _ = some (r, _) := e1
  have e2 : Mo_part 298 (g.2.2.2.2.2 (ix (i + 1))) _ = some (r, _) := e2
  refine V_aload_n (i := 1) (pc := 697) dL_law_697 rfl rfl ?_
  refine V_aload_n (i := 0) (pc := 698) dL_law_698 rfl rfl ?_
  refine V_iload_n (i := 3) (pc := 699) dL_law_699 rfl rfl ?_
  refine V_iconst (v := 1) (pc := 700) dL_law_700 rfl ?_
  refine V_iadd (pc := 701) dL_law_701 ?_
  refine V_sld (pc := 702) dL_law_702 (hi 1 (by decide)) ?_
  refine V_invV1 (c := 10) (pc := 703) dL_law_703 (e_PL_part kd1 e1) iv_La_71 (rmL (Nat.le_of_ble_eq_true rfl) (Nat.le_of_ble_eq_true rfl)) rfl kd1 cf_10 rfl (Nat.le_of_ble_eq_true rfl) rfl ?_
  refine V_aload_n (i := 2) (pc := 706) dL_law_706 rfl rfl ?_
  refine V_aload_n (i := 0) (pc := 707) dL_law_707 rfl rfl ?_
  refine V_iload_n (i := 3) (pc := 708) dL_law_708 rfl rfl ?_
  refine V_iconst (v := 1) (pc := 709) dL_law_709 rfl ?_
  refine V_iadd (pc := 710) dL_law_710 ?_
  refine V_sld (pc := 711) dL_law_711 (hi 1 (by decide)) ?_
  refine V_invV1 (c := 11) (pc := 712) dL_law_712 (e_Mo_part kd298 e2) iv_La_75 (rmL (Nat.le_of_ble_eq_true rfl) (Nat.le_of_ble_eq_true rfl)) rfl kd298 cf_11 rfl (Nat.le_of_ble_eq_true rfl) rfl ?_
  exact V_lif_eq (tgt := 2017) (pc := 715) dL_law_715 dL_law_716 rfl (fun _ => kk _ R2) (fun q => absurd rfl q)
theorem lwc_14 {g : GE} {b : Nat} {m : Mem} {i : Int32} (hi : ∀ k : Nat, k < 6 → inb (i + nI k) g.2.2.2.2.1) (R : RR m) (kk : ∀ m2, RR m2 → V g Y_law 2017 [some (vr 3000), some (vr 1), some (vr 298), some (vi i)] [] m2 (ZL g b)) : V g Y_law 721 [some (vr 3000), some (vr 1), some (vr 298), some (vi i)] [] m (ZL g b) := by
  obtain ⟨r, m1, m2, e1, e2, R2⟩ := st_with (g.2.2.2.2.2 (ix (i + 1))) (if (g.2.2.2.2.2 (ix (i + 2))) = 0 then (0 : Int32) else 1) m R
  have e1 : PL_with 1 (g.2.2.2.2.2 (ix (i + 1))) (if (g.2.2.2.2.2 (ix (i + 2))) = 0 then (0 : Int32) else 1) _ = some (r, _) := e1
  have e2 : Mo_with 298 (g.2.2.2.2.2 (ix (i + 1))) (if (g.2.2.2.2.2 (ix (i + 2))) = 0 then (0 : Int32) else 1) _ = some (r, _) := e2
  refine V_aload_n (i := 1) (pc := 721) dL_law_721 rfl rfl ?_
  refine V_aload_n (i := 0) (pc := 722) dL_law_722 rfl rfl ?_
  refine V_iload_n (i := 3) (pc := 723) dL_law_723 rfl rfl ?_
  refine V_iconst (v := 1) (pc := 724) dL_law_724 rfl ?_
  refine V_iadd (pc := 725) dL_law_725 ?_
  refine V_sld (pc := 726) dL_law_726 (hi 1 (by decide)) ?_
  refine V_aload_n (i := 0) (pc := 727) dL_law_727 rfl rfl ?_
  refine V_iload_n (i := 3) (pc := 728) dL_law_728 rfl rfl ?_
  refine V_iconst (v := 2) (pc := 729) dL_law_729 rfl ?_
  refine V_iadd (pc := 730) dL_law_730 ?_
  refine V_sld (pc := 731) dL_law_731 (hi 2 (by decide)) ?_
  refine V_truth (v := (if (g.2.2.2.2.2 (ix (i + 2))) = 0 then (0 : Int32) else 1)) (tgt := 739) (dst := 740) (pc := 732) dL_law_732 rfl dL_law_735 rfl dL_law_736 dL_law_739 rfl rfl ?_
  refine V_invV1 (c := 10) (pc := 740) dL_law_740 (e_PL_with kd1 e1) iv_La_76 (rmL (Nat.le_of_ble_eq_true rfl) (Nat.le_of_ble_eq_true rfl)) rfl kd1 cf_10 rfl (Nat.le_of_ble_eq_true rfl) rfl ?_
  refine V_aload_n (i := 2) (pc := 743) dL_law_743 rfl rfl ?_
  refine V_aload_n (i := 0) (pc := 744) dL_law_744 rfl rfl ?_
  refine V_iload_n (i := 3) (pc := 745) dL_law_745 rfl rfl ?_
  refine V_iconst (v := 1) (pc := 746) dL_law_746 rfl ?_
  refine V_iadd (pc := 747) dL_law_747 ?_
  refine V_sld (pc := 748) dL_law_748 (hi 1 (by decide)) ?_
  refine V_aload_n (i := 0) (pc := 749) dL_law_749 rfl rfl ?_
  refine V_iload_n (i := 3) (pc := 750) dL_law_750 rfl rfl ?_
  refine V_iconst (v := 2) (pc := 751) dL_law_751 rfl ?_
  refine V_iadd (pc := 752) dL_law_752 ?_
  refine V_sld (pc := 753) dL_law_753 (hi 2 (by decide)) ?_
  refine V_truth (v := (if (g.2.2.2.2.2 (ix (i + 2))) = 0 then (0 : Int32) else 1)) (tgt := 761) (dst := 762) (pc := 754) dL_law_754 rfl dL_law_757 rfl dL_law_758 dL_law_761 rfl rfl ?_
  refine V_invV1 (c := 11) (pc := 762) dL_law_762 (e_Mo_with kd298 e2) iv_La_80 (rmL (Nat.le_of_ble_eq_true rfl) (Nat.le_of_ble_eq_true rfl)) rfl kd298 cf_11 rfl (Nat.le_of_ble_eq_true rfl) rfl ?_
  exact V_lif_eq (tgt := 2017) (pc := 765) dL_law_765 dL_law_766 rfl (fun _ => kk _ R2) (fun q => absurd rfl q)
theorem lwc_15 {g : GE} {b : Nat} {m : Mem} {i : Int32} (hi : ∀ k : Nat, k < 6 → inb (i + nI k) g.2.2.2.2.1) (R : RR m) (kk : ∀ m2, RR m2 → V g Y_law 2017 [some (vr 3000), some (vr 1), some (vr 298), some (vi i)] [] m2 (ZL g b)) : V g Y_law 771 [some (vr 3000), some (vr 1), some (vr 298), some (vi i)] [] m (ZL g b) := by
  obtain ⟨r, m1, m2, e1, e2, R2⟩ := st_enough (g.2.2.2.2.2 (ix (i + 1))) m R
  obtain ⟨e2, h2⟩ := rd_o e2
  subst h2
  have e1 : PL_enough 1 (g.2.2.2.2.2 (ix (i + 1))) _ = some (r, _) := e1
  have e2 : Mo_enough 298 (g.2.2.2.2.2 (ix (i + 1))) _ = some r := e2
  refine V_aload_n (i := 1) (pc := 771) dL_law_771 rfl rfl ?_
  refine V_aload_n (i := 0) (pc := 772) dL_law_772 rfl rfl ?_
  refine V_iload_n (i := 3) (pc := 773) dL_law_773 rfl rfl ?_
  refine V_iconst (v := 1) (pc := 774) dL_law_774 rfl ?_
  refine V_iadd (pc := 775) dL_law_775 ?_
  refine V_sld (pc := 776) dL_law_776 (hi 1 (by decide)) ?_
  refine V_invV1 (c := 10) (pc := 777) dL_law_777 (e_PL_enough kd1 e1) iv_La_81 (rmL (Nat.le_of_ble_eq_true rfl) (Nat.le_of_ble_eq_true rfl)) rfl kd1 cf_10 rfl (Nat.le_of_ble_eq_true rfl) rfl ?_
  refine V_aload_n (i := 2) (pc := 780) dL_law_780 rfl rfl ?_
  refine V_aload_n (i := 0) (pc := 781) dL_law_781 rfl rfl ?_
  refine V_iload_n (i := 3) (pc := 782) dL_law_782 rfl rfl ?_
  refine V_iconst (v := 1) (pc := 783) dL_law_783 rfl ?_
  refine V_iadd (pc := 784) dL_law_784 ?_
  refine V_sld (pc := 785) dL_law_785 (hi 1 (by decide)) ?_
  refine V_invV1 (c := 11) (pc := 786) dL_law_786 (e_Mo_enough kd298 e2) iv_La_84 (rmL (Nat.le_of_ble_eq_true rfl) (Nat.le_of_ble_eq_true rfl)) rfl kd298 cf_11 rfl (Nat.le_of_ble_eq_true rfl) rfl ?_
  exact V_icmp_eq (tgt := 2017) (pc := 789) dL_law_789 rfl (fun _ => kk _ R2) (fun q => absurd rfl q)
theorem lwc_16 {g : GE} {b : Nat} {m : Mem} {i : Int32} (hi : ∀ k : Nat, k < 6 → inb (i + nI k) g.2.2.2.2.1) (R : RR m) (kk : ∀ m2, RR m2 → V g Y_law 2017 [some (vr 3000), some (vr 1), some (vr 298), some (vi i)] [] m2 (ZL g b)) : V g Y_law 794 [some (vr 3000), some (vr 1), some (vr 298), some (vi i)] [] m (ZL g b) := by
  obtain ⟨r, m1, m2, e1, e2, R2⟩ := st_lacks (g.2.2.2.2.2 (ix (i + 1))) (g.2.2.2.2.2 (ix (i + 2))) m R
  obtain ⟨e2, h2⟩ := rd_o e2
  subst h2
  have e1 : PL_lacks 1 (g.2.2.2.2.2 (ix (i + 1))) (g.2.2.2.2.2 (ix (i + 2))) _ = some (r, _) := e1
  have e2 : Mo_lacks 298 (g.2.2.2.2.2 (ix (i + 1))) (g.2.2.2.2.2 (ix (i + 2))) _ = some r := e2
  refine V_aload_n (i := 1) (pc := 794) dL_law_794 rfl rfl ?_
  refine V_aload_n (i := 0) (pc := 795) dL_law_795 rfl rfl ?_
  refine V_iload_n (i := 3) (pc := 796) dL_law_796 rfl rfl ?_
  refine V_iconst (v := 1) (pc := 797) dL_law_797 rfl ?_
  refine V_iadd (pc := 798) dL_law_798 ?_
  refine V_sld (pc := 799) dL_law_799 (hi 1 (by decide)) ?_
  refine V_aload_n (i := 0) (pc := 800) dL_law_800 rfl rfl ?_
  refine V_iload_n (i := 3) (pc := 801) dL_law_801 rfl rfl ?_
  refine V_iconst (v := 2) (pc := 802) dL_law_802 rfl ?_
  refine V_iadd (pc := 803) dL_law_803 ?_
  refine V_sld (pc := 804) dL_law_804 (hi 2 (by decide)) ?_
  refine V_invV1 (c := 10) (pc := 805) dL_law_805 (e_PL_lacks kd1 e1) iv_La_85 (rmL (Nat.le_of_ble_eq_true rfl) (Nat.le_of_ble_eq_true rfl)) rfl kd1 cf_10 rfl (Nat.le_of_ble_eq_true rfl) rfl ?_
  refine V_aload_n (i := 2) (pc := 808) dL_law_808 rfl rfl ?_
  refine V_aload_n (i := 0) (pc := 809) dL_law_809 rfl rfl ?_
  refine V_iload_n (i := 3) (pc := 810) dL_law_810 rfl rfl ?_
  refine V_iconst (v := 1) (pc := 811) dL_law_811 rfl ?_
  refine V_iadd (pc := 812) dL_law_812 ?_
  refine V_sld (pc := 813) dL_law_813 (hi 1 (by decide)) ?_
  refine V_aload_n (i := 0) (pc := 814) dL_law_814 rfl rfl ?_
  refine V_iload_n (i := 3) (pc := 815) dL_law_815 rfl rfl ?_
  refine V_iconst (v := 2) (pc := 816) dL_law_816 rfl ?_
  refine V_iadd (pc := 817) dL_law_817 ?_
  refine V_sld (pc := 818) dL_law_818 (hi 2 (by decide)) ?_
  refine V_invV1 (c := 11) (pc := 819) dL_law_819 (e_Mo_lacks kd298 e2) iv_La_88 (rmL (Nat.le_of_ble_eq_true rfl) (Nat.le_of_ble_eq_true rfl)) rfl kd298 cf_11 rfl (Nat.le_of_ble_eq_true rfl) rfl ?_
  exact V_icmp_eq (tgt := 2017) (pc := 822) dL_law_822 rfl (fun _ => kk _ R2) (fun q => absurd rfl q)
theorem lwc_17 {g : GE} {b : Nat} {m : Mem} {i : Int32} (hi : ∀ k : Nat, k < 6 → inb (i + nI k) g.2.2.2.2.1) (R : RR m) (kk : ∀ m2, RR m2 → V g Y_law 2017 [some (vr 3000), some (vr 1), some (vr 298), some (vi i)] [] m2 (ZL g b)) : V g Y_law 827 [some (vr 3000), some (vr 1), some (vr 298), some (vi i)] [] m (ZL g b) := by
  obtain ⟨r, m1, m2, e1, e2, R2⟩ := st_lost (g.2.2.2.2.2 (ix (i + 1))) m R
  have e1 : PL_lost 1 (g.2.2.2.2.2 (ix (i + 1))) _ = some (r, _) := e1
  have e2 : Mo_lost 298 (g.2.2.2.2.2 (ix (i + 1))) _ = some (r, _) := e2
  refine V_aload_n (i := 1) (pc := 827) dL_law_827 rfl rfl ?_
  refine V_aload_n (i := 0) (pc := 828) dL_law_828 rfl rfl ?_
  refine V_iload_n (i := 3) (pc := 829) dL_law_829 rfl rfl ?_
  refine V_iconst (v := 1) (pc := 830) dL_law_830 rfl ?_
  refine V_iadd (pc := 831) dL_law_831 ?_
  refine V_sld (pc := 832) dL_law_832 (hi 1 (by decide)) ?_
  refine V_invV1 (c := 10) (pc := 833) dL_law_833 (e_PL_lost kd1 e1) iv_La_89 (rmL (Nat.le_of_ble_eq_true rfl) (Nat.le_of_ble_eq_true rfl)) rfl kd1 cf_10 rfl (Nat.le_of_ble_eq_true rfl) rfl ?_
  refine V_aload_n (i := 2) (pc := 836) dL_law_836 rfl rfl ?_
  refine V_aload_n (i := 0) (pc := 837) dL_law_837 rfl rfl ?_
  refine V_iload_n (i := 3) (pc := 838) dL_law_838 rfl rfl ?_
  refine V_iconst (v := 1) (pc := 839) dL_law_839 rfl ?_
  refine V_iadd (pc := 840) dL_law_840 ?_
  refine V_sld (pc := 841) dL_law_841 (hi 1 (by decide)) ?_
  refine V_invV1 (c := 11) (pc := 842) dL_law_842 (e_Mo_lost kd298 e2) iv_La_92 (rmL (Nat.le_of_ble_eq_true rfl) (Nat.le_of_ble_eq_true rfl)) rfl kd298 cf_11 rfl (Nat.le_of_ble_eq_true rfl) rfl ?_
  exact V_lif_eq (tgt := 2017) (pc := 845) dL_law_845 dL_law_846 rfl (fun _ => kk _ R2) (fun q => absurd rfl q)
theorem lwc_18 {g : GE} {b : Nat} {m : Mem} {i : Int32} (hi : ∀ k : Nat, k < 6 → inb (i + nI k) g.2.2.2.2.1) (R : RR m) (kk : ∀ m2, RR m2 → V g Y_law 2017 [some (vr 3000), some (vr 1), some (vr 298), some (vi i)] [] m2 (ZL g b)) : V g Y_law 851 [some (vr 3000), some (vr 1), some (vr 298), some (vi i)] [] m (ZL g b) := by
  obtain ⟨r, m1, m2, e1, e2, R2⟩ := st_safe (g.2.2.2.2.2 (ix (i + 1))) m R
  have e1 : PL_safe 1 (g.2.2.2.2.2 (ix (i + 1))) _ = some (r, _) := e1
  have e2 : Mo_safe 298 (g.2.2.2.2.2 (ix (i + 1))) _ = some (r, _) := e2
  refine V_aload_n (i := 1) (pc := 851) dL_law_851 rfl rfl ?_
  refine V_aload_n (i := 0) (pc := 852) dL_law_852 rfl rfl ?_
  refine V_iload_n (i := 3) (pc := 853) dL_law_853 rfl rfl ?_
  refine V_iconst (v := 1) (pc := 854) dL_law_854 rfl ?_
  refine V_iadd (pc := 855) dL_law_855 ?_
  refine V_sld (pc := 856) dL_law_856 (hi 1 (by decide)) ?_
  refine V_invV1 (c := 10) (pc := 857) dL_law_857 (e_PL_safe kd1 e1) iv_La_93 (rmL (Nat.le_of_ble_eq_true rfl) (Nat.le_of_ble_eq_true rfl)) rfl kd1 cf_10 rfl (Nat.le_of_ble_eq_true rfl) rfl ?_
  refine V_aload_n (i := 2) (pc := 860) dL_law_860 rfl rfl ?_
  refine V_aload_n (i := 0) (pc := 861) dL_law_861 rfl rfl ?_
  refine V_iload_n (i := 3) (pc := 862) dL_law_862 rfl rfl ?_
  refine V_iconst (v := 1) (pc := 863) dL_law_863 rfl ?_
  refine V_iadd (pc := 864) dL_law_864 ?_
  refine V_sld (pc := 865) dL_law_865 (hi 1 (by decide)) ?_
  refine V_invV1 (c := 11) (pc := 866) dL_law_866 (e_Mo_safe kd298 e2) iv_La_96 (rmL (Nat.le_of_ble_eq_true rfl) (Nat.le_of_ble_eq_true rfl)) rfl kd298 cf_11 rfl (Nat.le_of_ble_eq_true rfl) rfl ?_
  exact V_icmp_eq (tgt := 2017) (pc := 869) dL_law_869 rfl (fun _ => kk _ R2) (fun q => absurd rfl q)
theorem lwc_19 {g : GE} {b : Nat} {m : Mem} {i : Int32} (hi : ∀ k : Nat, k < 6 → inb (i + nI k) g.2.2.2.2.1) (R : RR m) (kk : ∀ m2, RR m2 → V g Y_law 2017 [some (vr 3000), some (vr 1), some (vr 298), some (vi i)] [] m2 (ZL g b)) : V g Y_law 874 [some (vr 3000), some (vr 1), some (vr 298), some (vi i)] [] m (ZL g b) := by
  obtain ⟨r, m1, m2, e1, e2, R2⟩ := st_judge (g.2.2.2.2.2 (ix (i + 1))) m R
  obtain ⟨e2, h2⟩ := rd_o e2
  subst h2
  have e1 : PL_judge 1 (g.2.2.2.2.2 (ix (i + 1))) _ = some (r, _) := e1
  have e2 : Mo_judge 298 (g.2.2.2.2.2 (ix (i + 1))) _ = some r := e2
  refine V_aload_n (i := 1) (pc := 874) dL_law_874 rfl rfl ?_
  refine V_aload_n (i := 0) (pc := 875) dL_law_875 rfl rfl ?_
  refine V_iload_n (i := 3) (pc := 876) dL_law_876 rfl rfl ?_
  refine V_iconst (v := 1) (pc := 877) dL_law_877 rfl ?_
  refine V_iadd (pc := 878) dL_law_878 ?_
  refine V_sld (pc := 879) dL_law_879 (hi 1 (by decide)) ?_
  refine V_invV1 (c := 10) (pc := 880) dL_law_880 (e_PL_judge kd1 e1) iv_La_97 (rmL (Nat.le_of_ble_eq_true rfl) (Nat.le_of_ble_eq_true rfl)) rfl kd1 cf_10 rfl (Nat.le_of_ble_eq_true rfl) rfl ?_
  refine V_aload_n (i := 2) (pc := 883) dL_law_883 rfl rfl ?_
  refine V_aload_n (i := 0) (pc := 884) dL_law_884 rfl rfl ?_
  refine V_iload_n (i := 3) (pc := 885) dL_law_885 rfl rfl ?_
  refine V_iconst (v := 1) (pc := 886) dL_law_886 rfl ?_
  refine V_iadd (pc := 887) dL_law_887 ?_
  refine V_sld (pc := 888) dL_law_888 (hi 1 (by decide)) ?_
  refine V_invV1 (c := 11) (pc := 889) dL_law_889 (e_Mo_judge kd298 e2) iv_La_100 (rmL (Nat.le_of_ble_eq_true rfl) (Nat.le_of_ble_eq_true rfl)) rfl kd298 cf_11 rfl (Nat.le_of_ble_eq_true rfl) rfl ?_
  exact V_icmp_eq (tgt := 2017) (pc := 892) dL_law_892 rfl (fun _ => kk _ R2) (fun q => absurd rfl q)
theorem lwc_20 {g : GE} {b : Nat} {m : Mem} {i : Int32} (hi : ∀ k : Nat, k < 6 → inb (i + nI k) g.2.2.2.2.1) (R : RR m) (kk : ∀ m2, RR m2 → V g Y_law 2017 [some (vr 3000), some (vr 1), some (vr 298), some (vi i)] [] m2 (ZL g b)) : V g Y_law 897 [some (vr 3000), some (vr 1), some (vr 298), some (vi i)] [] m (ZL g b) := by
  obtain ⟨r, m1, m2, e1, e2, R2⟩ := st_lay (g.2.2.2.2.2 (ix (i + 1))) m R
  have e1 : PL_lay 1 (g.2.2.2.2.2 (ix (i + 1))) _ = some (r, _) := e1
  have e2 : Mo_lay 298 (g.2.2.2.2.2 (ix (i + 1))) _ = some (r, _) := e2
  refine V_aload_n (i := 1) (pc := 897) dL_law_897 rfl rfl ?_
  refine V_aload_n (i := 0) (pc := 898) dL_law_898 rfl rfl ?_
  refine V_iload_n (i := 3) (pc := 899) dL_law_899 rfl rfl ?_
  refine V_iconst (v := 1) (pc := 900) dL_law_900 rfl ?_
  refine V_iadd (pc := 901) dL_law_901 ?_
  refine V_sld (pc := 902) dL_law_902 (hi 1 (by decide)) ?_
  refine V_invV1 (c := 10) (pc := 903) dL_law_903 (e_PL_lay kd1 e1) iv_La_101 (rmL (Nat.le_of_ble_eq_true rfl) (Nat.le_of_ble_eq_true rfl)) rfl kd1 cf_10 rfl (Nat.le_of_ble_eq_true rfl) rfl ?_
  refine V_aload_n (i := 2) (pc := 906) dL_law_906 rfl rfl ?_
  refine V_aload_n (i := 0) (pc := 907) dL_law_907 rfl rfl ?_
  refine V_iload_n (i := 3) (pc := 908) dL_law_908 rfl rfl ?_
  refine V_iconst (v := 1) (pc := 909) dL_law_909 rfl ?_
  refine V_iadd (pc := 910) dL_law_910 ?_
  refine V_sld (pc := 911) dL_law_911 (hi 1 (by decide)) ?_
  refine V_invV1 (c := 11) (pc := 912) dL_law_912 (e_Mo_lay kd298 e2) iv_La_104 (rmL (Nat.le_of_ble_eq_true rfl) (Nat.le_of_ble_eq_true rfl)) rfl kd298 cf_11 rfl (Nat.le_of_ble_eq_true rfl) rfl ?_
  exact V_icmp_eq (tgt := 2017) (pc := 915) dL_law_915 rfl (fun _ => kk _ R2) (fun q => absurd rfl q)
theorem lwc_21 {g : GE} {b : Nat} {m : Mem} {i : Int32} (hi : ∀ k : Nat, k < 6 → inb (i + nI k) g.2.2.2.2.1) (R : RR m) (kk : ∀ m2, RR m2 → V g Y_law 2017 [some (vr 3000), some (vr 1), some (vr 298), some (vi i)] [] m2 (ZL g b)) : V g Y_law 920 [some (vr 3000), some (vr 1), some (vr 298), some (vi i)] [] m (ZL g b) := by
  obtain ⟨r, m1, m2, e1, e2, R2⟩ := st_trial (g.2.2.2.2.2 (ix (i + 1))) m R
  have e1 : PL_trial 1 (g.2.2.2.2.2 (ix (i + 1))) _ = some (r, _) := e1
  have e2 : Mo_trial 298 (g.2.2.2.2.2 (ix (i + 1))) _ = some (r, _) := e2
  refine V_aload_n (i := 1) (pc := 920) dL_law_920 rfl rfl ?_
  refine V_aload_n (i := 0) (pc := 921) dL_law_921 rfl rfl ?_
  refine V_iload_n (i := 3) (pc := 922) dL_law_922 rfl rfl ?_
  refine V_iconst (v := 1) (pc := 923) dL_law_923 rfl ?_
  refine V_iadd (pc := 924) dL_law_924 ?_
  refine V_sld (pc := 925) dL_law_925 (hi 1 (by decide)) ?_
  refine V_invV1 (c := 10) (pc := 926) dL_law_926 (e_PL_trial kd1 e1) iv_La_105 (rmL (Nat.le_of_ble_eq_true rfl) (Nat.le_of_ble_eq_true rfl)) rfl kd1 cf_10 rfl (Nat.le_of_ble_eq_true rfl) rfl ?_
  refine V_aload_n (i := 2) (pc := 929) dL_law_929 rfl rfl ?_
  refine V_aload_n (i := 0) (pc := 930) dL_law_930 rfl rfl ?_
  refine V_iload_n (i := 3) (pc := 931) dL_law_931 rfl rfl ?_
  refine V_iconst (v := 1) (pc := 932) dL_law_932 rfl ?_
  refine V_iadd (pc := 933) dL_law_933 ?_
  refine V_sld (pc := 934) dL_law_934 (hi 1 (by decide)) ?_
  refine V_invV1 (c := 11) (pc := 935) dL_law_935 (e_Mo_trial kd298 e2) iv_La_108 (rmL (Nat.le_of_ble_eq_true rfl) (Nat.le_of_ble_eq_true rfl)) rfl kd298 cf_11 rfl (Nat.le_of_ble_eq_true rfl) rfl ?_
  exact V_lif_eq (tgt := 2017) (pc := 938) dL_law_938 dL_law_939 rfl (fun _ => kk _ R2) (fun q => absurd rfl q)
theorem lwc_22 {g : GE} {b : Nat} {m : Mem} {i : Int32} (hi : ∀ k : Nat, k < 6 → inb (i + nI k) g.2.2.2.2.1) (R : RR m) (kk : ∀ m2, RR m2 → V g Y_law 2017 [some (vr 3000), some (vr 1), some (vr 298), some (vi i)] [] m2 (ZL g b)) : V g Y_law 944 [some (vr 3000), some (vr 1), some (vr 298), some (vi i)] [] m (ZL g b) := by
  obtain ⟨r, m1, m2, e1, e2, R2⟩ := st_best m R
  have e1 : PL_best 1 _ = some (r, _) := e1
  have e2 : Mo_best 298 _ = some (r, _) := e2
  refine V_aload_n (i := 1) (pc := 944) dL_law_944 rfl rfl ?_
  refine V_invV1 (c := 10) (pc := 945) dL_law_945 (e_PL_best kd1 e1) iv_La_109 (rmL (Nat.le_of_ble_eq_true rfl) (Nat.le_of_ble_eq_true rfl)) rfl kd1 cf_10 rfl (Nat.le_of_ble_eq_true rfl) rfl ?_
  refine V_aload_n (i := 2) (pc := 948) dL_law_948 rfl rfl ?_
  refine V_invV1 (c := 11) (pc := 949) dL_law_949 (e_Mo_best kd298 e2) iv_La_112 (rmL (Nat.le_of_ble_eq_true rfl) (Nat.le_of_ble_eq_true rfl)) rfl kd298 cf_11 rfl (Nat.le_of_ble_eq_true rfl) rfl ?_
  exact V_icmp_eq (tgt := 2017) (pc := 952) dL_law_952 rfl (fun _ => kk _ R2) (fun q => absurd rfl q)
theorem lwc_23 {g : GE} {b : Nat} {m : Mem} {i : Int32} (hi : ∀ k : Nat, k < 6 → inb (i + nI k) g.2.2.2.2.1) (R : RR m) (kk : ∀ m2, RR m2 → V g Y_law 2017 [some (vr 3000), some (vr 1), some (vr 298), some (vi i)] [] m2 (ZL g b)) : V g Y_law 957 [some (vr 3000), some (vr 1), some (vr 298), some (vi i)] [] m (ZL g b) := by
  obtain ⟨r, m1, m2, e1, e2, R2⟩ := st_betters (g.2.2.2.2.2 (ix (i + 1))) m R
  have e1 : PL_betters 1 (g.2.2.2.2.2 (ix (i + 1))) _ = some (r, _) := e1
  have e2 : Mo_betters 298 (g.2.2.2.2.2 (ix (i + 1))) _ = some (r, _) := e2
  refine V_aload_n (i := 1) (pc := 957) dL_law_957 rfl rfl ?_
  refine V_aload_n (i := 0) (pc := 958) dL_law_958 rfl rfl ?_
  refine V_iload_n (i := 3) (pc := 959) dL_law_959 rfl rfl ?_
  refine V_iconst (v := 1) (pc := 960) dL_law_960 rfl ?_
  refine V_iadd (pc := 961) dL_law_961 ?_
  refine V_sld (pc := 962) dL_law_962 (hi 1 (by decide)) ?_
  refine V_invV1 (c := 10) (pc := 963) dL_law_963 (e_PL_betters kd1 e1) iv_La_113 (rmL (Nat.le_of_ble_eq_true rfl) (Nat.le_of_ble_eq_true rfl)) rfl kd1 cf_10 rfl (Nat.le_of_ble_eq_true rfl) rfl ?_
  refine V_aload_n (i := 2) (pc := 966) dL_law_966 rfl rfl ?_
  refine V_aload_n (i := 0) (pc := 967) dL_law_967 rfl rfl ?_
  refine V_iload_n (i := 3) (pc := 968) dL_law_968 rfl rfl ?_
  refine V_iconst (v := 1) (pc := 969) dL_law_969 rfl ?_
  refine V_iadd (pc := 970) dL_law_970 ?_
  refine V_sld (pc := 971) dL_law_971 (hi 1 (by decide)) ?_
  refine V_invV1 (c := 11) (pc := 972) dL_law_972 (e_Mo_betters kd298 e2) iv_La_116 (rmL (Nat.le_of_ble_eq_true rfl) (Nat.le_of_ble_eq_true rfl)) rfl kd298 cf_11 rfl (Nat.le_of_ble_eq_true rfl) rfl ?_
  exact V_icmp_eq (tgt := 2017) (pc := 975) dL_law_975 rfl (fun _ => kk _ R2) (fun q => absurd rfl q)
theorem lwc_24 {g : GE} {b : Nat} {m : Mem} {i : Int32} (hi : ∀ k : Nat, k < 6 → inb (i + nI k) g.2.2.2.2.1) (R : RR m) (kk : ∀ m2, RR m2 → V g Y_law 2017 [some (vr 3000), some (vr 1), some (vr 298), some (vi i)] [] m2 (ZL g b)) : V g Y_law 980 [some (vr 3000), some (vr 1), some (vr 298), some (vi i)] [] m (ZL g b) := by
  obtain ⟨r, m1, m2, e1, e2, R2⟩ := st_gap m R
  have e1 : PL_gap 1 _ = some (r, _) := e1
  have e2 : Mo_gap 298 _ = some (r, _) := e2
  refine V_aload_n (i := 1) (pc := 980) dL_law_980 rfl rfl ?_
  refine V_invV1 (c := 10) (pc := 981) dL_law_981 (e_PL_gap kd1 e1) iv_La_117 (rmL (Nat.le_of_ble_eq_true rfl) (Nat.le_of_ble_eq_true rfl)) rfl kd1 cf_10 rfl (Nat.le_of_ble_eq_true rfl) rfl ?_
  refine V_aload_n (i := 2) (pc := 984) dL_law_984 rfl rfl ?_
  refine V_invV1 (c := 11) (pc := 985) dL_law_985 (e_Mo_gap kd298 e2) iv_La_121 (rmL (Nat.le_of_ble_eq_true rfl) (Nat.le_of_ble_eq_true rfl)) rfl kd298 cf_11 rfl (Nat.le_of_ble_eq_true rfl) rfl ?_
  exact V_lif_eq (tgt := 2017) (pc := 988) dL_law_988 dL_law_989 rfl (fun _ => kk _ R2) (fun q => absurd rfl q)
theorem lwc_25 {g : GE} {b : Nat} {m : Mem} {i : Int32} (hi : ∀ k : Nat, k < 6 → inb (i + nI k) g.2.2.2.2.1) (R : RR m) (kk : ∀ m2, RR m2 → V g Y_law 2017 [some (vr 3000), some (vr 1), some (vr 298), some (vi i)] [] m2 (ZL g b)) : V g Y_law 994 [some (vr 3000), some (vr 1), some (vr 298), some (vi i)] [] m (ZL g b) := by
  obtain ⟨r, m1, m2, e1, e2, R2⟩ := st_heaps m R
  have e1 : PL_heaps 1 _ = some (r, _) := e1
  have e2 : Mo_heaps 298 _ = some (r, _) := e2
  refine V_aload_n (i := 1) (pc := 994) dL_law_994 rfl rfl ?_
  refine V_invV1 (c := 10) (pc := 995) dL_law_995 (e_PL_heaps kd1 e1) iv_La_122 (rmL (Nat.le_of_ble_eq_true rfl) (Nat.le_of_ble_eq_true rfl)) rfl kd1 cf_10 rfl (Nat.le_of_ble_eq_true rfl) rfl ?_
  refine V_aload_n (i := 2) (pc := 998) dL_law_998 rfl rfl ?_
  refine V_invV1 (c := 11) (pc := 999) dL_law_999 (e_Mo_heaps kd298 e2) iv_La_125 (rmL (Nat.le_of_ble_eq_true rfl) (Nat.le_of_ble_eq_true rfl)) rfl kd298 cf_11 rfl (Nat.le_of_ble_eq_true rfl) rfl ?_
  exact V_icmp_eq (tgt := 2017) (pc := 1002) dL_law_1002 rfl (fun _ => kk _ R2) (fun q => absurd rfl q)
theorem lwc_26 {g : GE} {b : Nat} {m : Mem} {i : Int32} (hi : ∀ k : Nat, k < 6 → inb (i + nI k) g.2.2.2.2.1) (R : RR m) (kk : ∀ m2, RR m2 → V g Y_law 2017 [some (vr 3000), some (vr 1), some (vr 298), some (vi i)] [] m2 (ZL g b)) : V g Y_law 1007 [some (vr 3000), some (vr 1), some (vr 298), some (vi i)] [] m (ZL g b) := by
  obtain ⟨r, m1, m2, e1, e2, R2⟩ := st_where (g.2.2.2.2.2 (ix (i + 1))) m R
  have e1 : PL_where 1 (g.2.2.2.2.2 (ix (i + 1))) _ = some (r, _) := e1
  have e2 : Mo_where 298 (g.2.2.2.2.2 (ix (i + 1))) _ = some (r, _) := e2
  refine V_aload_n (i := 1) (pc := 1007) dL_law_1007 rfl rfl ?_
  refine V_aload_n (i := 0) (pc := 1008) dL_law_1008 rfl rfl ?_
  refine V_iload_n (i := 3) (pc := 1009) dL_law_1009 rfl rfl ?_
  refine V_iconst (v := 1) (pc := 1010) dL_law_1010 rfl ?_
  refine V_iadd (pc := 1011) dL_law_1011 ?_
  refine V_sld (pc := 1012) dL_law_1012 (hi 1 (by decide)) ?_
  refine V_invV1 (c := 10) (pc := 1013) dL_law_1013 (e_PL_where kd1 e1) iv_La_126 (rmL (Nat.le_of_ble_eq_true rfl) (Nat.le_of_ble_eq_true rfl)) rfl kd1 cf_10 rfl (Nat.le_of_ble_eq_true rfl) rfl ?_
  refine V_aload_n (i := 2) (pc := 1016) dL_law_1016 rfl rfl ?_
  refine V_aload_n (i := 0) (pc := 1017) dL_law_1017 rfl rfl ?_
  refine V_iload_n (i := 3) (pc := 1018) dL_law_1018 rfl rfl ?_
  refine V_iconst (v := 1) (pc := 1019) dL_law_1019 rfl ?_
  refine V_iadd (pc := 1020) dL_law_1020 ?_
  refine V_sld (pc := 1021) dL_law_1021 (hi 1 (by decide)) ?_
  refine V_invV1 (c := 11) (pc := 1022) dL_law_1022 (e_Mo_where kd298 e2) iv_La_129 (rmL (Nat.le_of_ble_eq_true rfl) (Nat.le_of_ble_eq_true rfl)) rfl kd298 cf_11 rfl (Nat.le_of_ble_eq_true rfl) rfl ?_
  exact V_icmp_eq (tgt := 2017) (pc := 1025) dL_law_1025 rfl (fun _ => kk _ R2) (fun q => absurd rfl q)
theorem lwc_27 {g : GE} {b : Nat} {m : Mem} {i : Int32} (hi : ∀ k : Nat, k < 6 → inb (i + nI k) g.2.2.2.2.1) (R : RR m) (kk : ∀ m2, RR m2 → V g Y_law 2017 [some (vr 3000), some (vr 1), some (vr 298), some (vi i)] [] m2 (ZL g b)) : V g Y_law 1030 [some (vr 3000), some (vr 1), some (vr 298), some (vi i)] [] m (ZL g b) := by
  obtain ⟨r, m1, m2, e1, e2, R2⟩ := st_watch (g.2.2.2.2.2 (ix (i + 1))) m R
  obtain ⟨e1, h1⟩ := rd_o e1
  subst h1
  obtain ⟨e2, h2⟩ := rd_o e2
  subst h2
  have e1 : PL_watch 1 (g.2.2.2.2.2 (ix (i + 1))) _ = some r := e1
  have e2 : Mo_watch 298 (g.2.2.2.2.2 (ix (i + 1))) _ = some r := e2
  refine V_aload_n (i := 1) (pc := 1030) dL_law_1030 rfl rfl ?_
  refine V_aload_n (i := 0) (pc := 1031) dL_law_1031 rfl rfl ?_
  refine V_iload_n (i := 3) (pc := 1032) dL_law_1032 rfl rfl ?_
  refine V_iconst (v := 1) (pc := 1033) dL_law_1033 rfl ?_
  refine V_iadd (pc := 1034) dL_law_1034 ?_
  refine V_sld (pc := 1035) dL_law_1035 (hi 1 (by decide)) ?_
  refine V_invV1 (c := 10) (pc := 1036) dL_law_1036 (e_PL_watch kd1 e1) iv_La_130 (rmL (Nat.le_of_ble_eq_true rfl) (Nat.le_of_ble_eq_true rfl)) rfl kd1 cf_10 rfl (Nat.le_of_ble_eq_true rfl) rfl ?_
  refine V_aload_n (i := 2) (pc := 1039) dL_law_1039 rfl rfl ?_
  refine V_aload_n (i := 0) (pc := 1040) dL_law_1040 rfl rfl ?_
  refine V_iload_n (i := 3) (pc := 1041) dL_law_1041 rfl rfl ?_
  refine V_iconst (v := 1) (pc := 1042) dL_law_1042 rfl ?_
  refine V_iadd (pc := 1043) dL_law_1043 ?_
  refine V_sld (pc := 1044) dL_law_1044 (hi 1 (by decide)) ?_
  refine V_invV1 (c := 11) (pc := 1045) dL_law_1045 (e_Mo_watch kd298 e2) iv_La_133 (rmL (Nat.le_of_ble_eq_true rfl) (Nat.le_of_ble_eq_true rfl)) rfl kd298 cf_11 rfl (Nat.le_of_ble_eq_true rfl) rfl ?_
  exact V_lif_eq (tgt := 2017) (pc := 1048) dL_law_1048 dL_law_1049 rfl (fun _ => kk _ R2) (fun q => absurd rfl q)
theorem lwc_28 {g : GE} {b : Nat} {m : Mem} {i : Int32} (hi : ∀ k : Nat, k < 6 → inb (i + nI k) g.2.2.2.2.1) (R : RR m) (kk : ∀ m2, RR m2 → V g Y_law 2017 [some (vr 3000), some (vr 1), some (vr 298), some (vi i)] [] m2 (ZL g b)) : V g Y_law 1054 [some (vr 3000), some (vr 1), some (vr 298), some (vi i)] [] m (ZL g b) := by
  obtain ⟨r, m1, m2, e1, e2, R2⟩ := st_watches (g.2.2.2.2.2 (ix (i + 1))) m R
  obtain ⟨e1, h1⟩ := rd_o e1
  subst h1
  obtain ⟨e2, h2⟩ := rd_o e2
  subst h2
  have e1 : PL_watches 1 (g.2.2.2.2.2 (ix (i + 1))) _ = some r := e1
  have e2 : Mo_watches 298 (g.2.2.2.2.2 (ix (i + 1))) _ = some r := e2
  refine V_aload_n (i := 1) (pc := 1054) dL_law_1054 rfl rfl ?_
  refine V_aload_n (i := 0) (pc := 1055) dL_law_1055 rfl rfl ?_
  refine V_iload_n (i := 3) (pc := 1056) dL_law_1056 rfl rfl ?_
  refine V_iconst (v := 1) (pc := 1057) dL_law_1057 rfl ?_
  refine V_iadd (pc := 1058) dL_law_1058 ?_
  refine V_sld (pc := 1059) dL_law_1059 (hi 1 (by decide)) ?_
  refine V_invV1 (c := 10) (pc := 1060) dL_law_1060 (e_PL_watches kd1 e1) iv_La_134 (rmL (Nat.le_of_ble_eq_true rfl) (Nat.le_of_ble_eq_true rfl)) rfl kd1 cf_10 rfl (Nat.le_of_ble_eq_true rfl) rfl ?_
  refine V_aload_n (i := 2) (pc := 1063) dL_law_1063 rfl rfl ?_
  refine V_aload_n (i := 0) (pc := 1064) dL_law_1064 rfl rfl ?_
  refine V_iload_n (i := 3) (pc := 1065) dL_law_1065 rfl rfl ?_
  refine V_iconst (v := 1) (pc := 1066) dL_law_1066 rfl ?_
  refine V_iadd (pc := 1067) dL_law_1067 ?_
  refine V_sld (pc := 1068) dL_law_1068 (hi 1 (by decide)) ?_
  refine V_invV1 (c := 11) (pc := 1069) dL_law_1069 (e_Mo_watches kd298 e2) iv_La_137 (rmL (Nat.le_of_ble_eq_true rfl) (Nat.le_of_ble_eq_true rfl)) rfl kd298 cf_11 rfl (Nat.le_of_ble_eq_true rfl) rfl ?_
  exact V_icmp_eq (tgt := 2017) (pc := 1072) dL_law_1072 rfl (fun _ => kk _ R2) (fun q => absurd rfl q)
theorem lwc_29 {g : GE} {b : Nat} {m : Mem} {i : Int32} (hi : ∀ k : Nat, k < 6 → inb (i + nI k) g.2.2.2.2.1) (R : RR m) (kk : ∀ m2, RR m2 → V g Y_law 2017 [some (vr 3000), some (vr 1), some (vr 298), some (vi i)] [] m2 (ZL g b)) : V g Y_law 1077 [some (vr 3000), some (vr 1), some (vr 298), some (vi i)] [] m (ZL g b) := by
  obtain ⟨r, m1, m2, e1, e2, R2⟩ := st_alive (g.2.2.2.2.2 (ix (i + 1))) (g.2.2.2.2.2 (ix (i + 2))) (g.2.2.2.2.2 (ix (i + 3))) m R
  have e1 : PL_alive 1 (g.2.2.2.2.2 (ix (i + 1))) (g.2.2.2.2.2 (ix (i + 2))) (g.2.2.2.2.2 (ix (i + 3))) _ = some (r, _) := e1
  have e2 : Mo_alive 298 (g.2.2.2.2.2 (ix (i + 1))) (g.2.2.2.2.2 (ix (i + 2))) (g.2.2.2.2.2 (ix (i + 3))) _ = some (r, _) := e2
  refine V_aload_n (i := 1) (pc := 1077) dL_law_1077 rfl rfl ?_
  refine V_aload_n (i := 0) (pc := 1078) dL_law_1078 rfl rfl ?_
  refine V_iload_n (i := 3) (pc := 1079) dL_law_1079 rfl rfl ?_
  refine V_iconst (v := 1) (pc := 1080) dL_law_1080 rfl ?_
  refine V_iadd (pc := 1081) dL_law_1081 ?_
  refine V_sld (pc := 1082) dL_law_1082 (hi 1 (by decide)) ?_
  refine V_aload_n (i := 0) (pc := 1083) dL_law_1083 rfl rfl ?_
  refine V_iload_n (i := 3) (pc := 1084) dL_law_1084 rfl rfl ?_
  refine V_iconst (v := 2) (pc := 1085) dL_law_1085 rfl ?_
  refine V_iadd (pc := 1086) dL_law_1086 ?_
  refine V_sld (pc := 1087) dL_law_1087 (hi 2 (by decide)) ?_
  refine V_aload_n (i := 0) (pc := 1088) dL_law_1088 rfl rfl ?_
  refine V_iload_n (i := 3) (pc := 1089) dL_law_1089 rfl rfl ?_
  refine V_iconst (v := 3) (pc := 1090) dL_law_1090 rfl ?_
  refine V_iadd (pc := 1091) dL_law_1091 ?_
  refine V_sld (pc := 1092) dL_law_1092 (hi 3 (by decide)) ?_
  refine V_invV1 (c := 10) (pc := 1093) dL_law_1093 (e_PL_alive kd1 e1) iv_La_138 (rmL (Nat.le_of_ble_eq_true rfl) (Nat.le_of_ble_eq_true rfl)) rfl kd1 cf_10 rfl (Nat.le_of_ble_eq_true rfl) rfl ?_
  refine V_aload_n (i := 2) (pc := 1096) dL_law_1096 rfl rfl ?_
  refine V_aload_n (i := 0) (pc := 1097) dL_law_1097 rfl rfl ?_
  refine V_iload_n (i := 3) (pc := 1098) dL_law_1098 rfl rfl ?_
  refine V_iconst (v := 1) (pc := 1099) dL_law_1099 rfl ?_
  refine V_iadd (pc := 1100) dL_law_1100 ?_
  refine V_sld (pc := 1101) dL_law_1101 (hi 1 (by decide)) ?_
  refine V_aload_n (i := 0) (pc := 1102) dL_law_1102 rfl rfl ?_
  refine V_iload_n (i := 3) (pc := 1103) dL_law_1103 rfl rfl ?_
  refine V_iconst (v := 2) (pc := 1104) dL_law_1104 rfl ?_
  refine V_iadd (pc := 1105) dL_law_1105 ?_
  refine V_sld (pc := 1106) dL_law_1106 (hi 2 (by decide)) ?_
  refine V_aload_n (i := 0) (pc := 1107) dL_law_1107 rfl rfl ?_
  refine V_iload_n (i := 3) (pc := 1108) dL_law_1108 rfl rfl ?_
  refine V_iconst (v := 3) (pc := 1109) dL_law_1109 rfl ?_
  refine V_iadd (pc := 1110) dL_law_1110 ?_
  refine V_sld (pc := 1111) dL_law_1111 (hi 3 (by decide)) ?_
  refine V_invV1 (c := 11) (pc := 1112) dL_law_1112 (e_Mo_alive kd298 e2) iv_La_142 (rmL (Nat.le_of_ble_eq_true rfl) (Nat.le_of_ble_eq_true rfl)) rfl kd298 cf_11 rfl (Nat.le_of_ble_eq_true rfl) rfl ?_
  exact V_lif_eq (tgt := 2017) (pc := 1115) dL_law_1115 dL_law_1116 rfl (fun _ => kk _ R2) (fun q => absurd rfl q)
theorem lwc_30 {g : GE} {b : Nat} {m : Mem} {i : Int32} (hi : ∀ k : Nat, k < 6 → inb (i + nI k) g.2.2.2.2.1) (R : RR m) (kk : ∀ m2, RR m2 → V g Y_law 2017 [some (vr 3000), some (vr 1), some (vr 298), some (vi i)] [] m2 (ZL g b)) : V g Y_law 1121 [some (vr 3000), some (vr 1), some (vr 298), some (vi i)] [] m (ZL g b) := by
  obtain ⟨r, m1, m2, e1, e2, R2⟩ := st_go (g.2.2.2.2.2 (ix (i + 1))) (g.2.2.2.2.2 (ix (i + 2))) (g.2.2.2.2.2 (ix (i + 3))) m R
  have e1 : PL_go 1 (g.2.2.2.2.2 (ix (i + 1))) (g.2.2.2.2.2 (ix (i + 2))) (g.2.2.2.2.2 (ix (i + 3))) _ = some (r, _) := e1
  have e2 : Mo_go 298 (g.2.2.2.2.2 (ix (i + 1))) (g.2.2.2.2.2 (ix (i + 2))) (g.2.2.2.2.2 (ix (i + 3))) _ = some (r, _) := e2
  refine V_aload_n (i := 1) (pc := 1121) dL_law_1121 rfl rfl ?_
  refine V_aload_n (i := 0) (pc := 1122) dL_law_1122 rfl rfl ?_
  refine V_iload_n (i := 3) (pc := 1123) dL_law_1123 rfl rfl ?_
  refine V_iconst (v := 1) (pc := 1124) dL_law_1124 rfl ?_
  refine V_iadd (pc := 1125) dL_law_1125 ?_
  refine V_sld (pc := 1126) dL_law_1126 (hi 1 (by decide)) ?_
  refine V_aload_n (i := 0) (pc := 1127) dL_law_1127 rfl rfl ?_
  refine V_iload_n (i := 3) (pc := 1128) dL_law_1128 rfl rfl ?_
  refine V_iconst (v := 2) (pc := 1129) dL_law_1129 rfl ?_
  refine V_iadd (pc := 1130) dL_law_1130 ?_
  refine V_sld (pc := 1131) dL_law_1131 (hi 2 (by decide)) ?_
  refine V_aload_n (i := 0) (pc := 1132) dL_law_1132 rfl rfl ?_
  refine V_iload_n (i := 3) (pc := 1133) dL_law_1133 rfl rfl ?_
  refine V_iconst (v := 3) (pc := 1134) dL_law_1134 rfl ?_
  refine V_iadd (pc := 1135) dL_law_1135 ?_
  refine V_sld (pc := 1136) dL_law_1136 (hi 3 (by decide)) ?_
  refine V_invV1 (c := 10) (pc := 1137) dL_law_1137 (e_PL_go kd1 e1) iv_La_143 (rmL (Nat.le_of_ble_eq_true rfl) (Nat.le_of_ble_eq_true rfl)) rfl kd1 cf_10 rfl (Nat.le_of_ble_eq_true rfl) rfl ?_
  refine V_aload_n (i := 2) (pc := 1140) dL_law_1140 rfl rfl ?_
  refine V_aload_n (i := 0) (pc := 1141) dL_law_1141 rfl rfl ?_
  refine V_iload_n (i := 3) (pc := 1142) dL_law_1142 rfl rfl ?_
  refine V_iconst (v := 1) (pc := 1143) dL_law_1143 rfl ?_
  refine V_iadd (pc := 1144) dL_law_1144 ?_
  refine V_sld (pc := 1145) dL_law_1145 (hi 1 (by decide)) ?_
  refine V_aload_n (i := 0) (pc := 1146) dL_law_1146 rfl rfl ?_
  refine V_iload_n (i := 3) (pc := 1147) dL_law_1147 rfl rfl ?_
  refine V_iconst (v := 2) (pc := 1148) dL_law_1148 rfl ?_
  refine V_iadd (pc := 1149) dL_law_1149 ?_
  refine V_sld (pc := 1150) dL_law_1150 (hi 2 (by decide)) ?_
  refine V_aload_n (i := 0) (pc := 1151) dL_law_1151 rfl rfl ?_
  refine V_iload_n (i := 3) (pc := 1152) dL_law_1152 rfl rfl ?_
  refine V_iconst (v := 3) (pc := 1153) dL_law_1153 rfl ?_
  refine V_iadd (pc := 1154) dL_law_1154 ?_
  refine V_sld (pc := 1155) dL_law_1155 (hi 3 (by decide)) ?_
  refine V_invV1 (c := 11) (pc := 1156) dL_law_1156 (e_Mo_go kd298 e2) iv_La_146 (rmL (Nat.le_of_ble_eq_true rfl) (Nat.le_of_ble_eq_true rfl)) rfl kd298 cf_11 rfl (Nat.le_of_ble_eq_true rfl) rfl ?_
  exact V_icmp_eq (tgt := 2017) (pc := 1159) dL_law_1159 rfl (fun _ => kk _ R2) (fun q => absurd rfl q)
theorem lwc_31 {g : GE} {b : Nat} {m : Mem} {i : Int32} (hi : ∀ k : Nat, k < 6 → inb (i + nI k) g.2.2.2.2.1) (R : RR m) (kk : ∀ m2, RR m2 → V g Y_law 2017 [some (vr 3000), some (vr 1), some (vr 298), some (vi i)] [] m2 (ZL g b)) : V g Y_law 1164 [some (vr 3000), some (vr 1), some (vr 298), some (vi i)] [] m (ZL g b) := by
  obtain ⟨r, m1, m2, e1, e2, R2⟩ := st_leave m R
  have e1 : PL_leave 1 _ = some (r, _) := e1
  have e2 : Mo_leave 298 _ = some (r, _) := e2
  refine V_aload_n (i := 1) (pc := 1164) dL_law_1164 rfl rfl ?_
  refine V_invV1 (c := 10) (pc := 1165) dL_law_1165 (e_PL_leave kd1 e1) iv_La_147 (rmL (Nat.le_of_ble_eq_true rfl) (Nat.le_of_ble_eq_true rfl)) rfl kd1 cf_10 rfl (Nat.le_of_ble_eq_true rfl) rfl ?_
  refine V_aload_n (i := 2) (pc := 1168) dL_law_1168 rfl rfl ?_
  refine V_invV1 (c := 11) (pc := 1169) dL_law_1169 (e_Mo_leave kd298 e2) iv_La_150 (rmL (Nat.le_of_ble_eq_true rfl) (Nat.le_of_ble_eq_true rfl)) rfl kd298 cf_11 rfl (Nat.le_of_ble_eq_true rfl) rfl ?_
  exact V_icmp_eq (tgt := 2017) (pc := 1172) dL_law_1172 rfl (fun _ => kk _ R2) (fun q => absurd rfl q)
theorem lwc_32 {g : GE} {b : Nat} {m : Mem} {i : Int32} (hi : ∀ k : Nat, k < 6 → inb (i + nI k) g.2.2.2.2.1) (R : RR m) (kk : ∀ m2, RR m2 → V g Y_law 2017 [some (vr 3000), some (vr 1), some (vr 298), some (vi i)] [] m2 (ZL g b)) : V g Y_law 1177 [some (vr 3000), some (vr 1), some (vr 298), some (vi i)] [] m (ZL g b) := by
  obtain ⟨r, m1, m2, e1, e2, R2⟩ := st_least (g.2.2.2.2.2 (ix (i + 1))) (g.2.2.2.2.2 (ix (i + 2))) (g.2.2.2.2.2 (ix (i + 3))) m R
  have e1 : PL_least 1 (g.2.2.2.2.2 (ix (i + 1))) (g.2.2.2.2.2 (ix (i + 2))) (g.2.2.2.2.2 (ix (i + 3))) _ = some (r, _) := e1
  have e2 : Mo_least 298 (g.2.2.2.2.2 (ix (i + 1))) (g.2.2.2.2.2 (ix (i + 2))) (g.2.2.2.2.2 (ix (i + 3))) _ = some (r, _) := e2
  refine V_aload_n (i := 1) (pc := 1177) dL_law_1177 rfl rfl ?_
  refine V_aload_n (i := 0) (pc := 1178) dL_law_1178 rfl rfl ?_
  refine V_iload_n (i := 3) (pc := 1179) dL_law_1179 rfl rfl ?_
  refine V_iconst (v := 1) (pc := 1180) dL_law_1180 rfl ?_
  refine V_iadd (pc := 1181) dL_law_1181 ?_
  refine V_sld (pc := 1182) dL_law_1182 (hi 1 (by decide)) ?_
  refine V_aload_n (i := 0) (pc := 1183) dL_law_1183 rfl rfl ?_
  refine V_iload_n (i := 3) (pc := 1184) dL_law_1184 rfl rfl ?_
  refine V_iconst (v := 2) (pc := 1185) dL_law_1185 rfl ?_
  refine V_iadd (pc := 1186) dL_law_1186 ?_
  refine V_sld (pc := 1187) dL_law_1187 (hi 2 (by decide)) ?_
  refine V_aload_n (i := 0) (pc := 1188) dL_law_1188 rfl rfl ?_
  refine V_iload_n (i := 3) (pc := 1189) dL_law_1189 rfl rfl ?_
  refine V_iconst (v := 3) (pc := 1190) dL_law_1190 rfl ?_
  refine V_iadd (pc := 1191) dL_law_1191 ?_
  refine V_sld (pc := 1192) dL_law_1192 (hi 3 (by decide)) ?_
  refine V_invV1 (c := 10) (pc := 1193) dL_law_1193 (e_PL_least kd1 e1) iv_La_151 (rmL (Nat.le_of_ble_eq_true rfl) (Nat.le_of_ble_eq_true rfl)) rfl kd1 cf_10 rfl (Nat.le_of_ble_eq_true rfl) rfl ?_
  refine V_aload_n (i := 2) (pc := 1196) dL_law_1196 rfl rfl ?_
  refine V_aload_n (i := 0) (pc := 1197) dL_law_1197 rfl rfl ?_
  refine V_iload_n (i := 3) (pc := 1198) dL_law_1198 rfl rfl ?_
  refine V_iconst (v := 1) (pc := 1199) dL_law_1199 rfl ?_
  refine V_iadd (pc := 1200) dL_law_1200 ?_
  refine V_sld (pc := 1201) dL_law_1201 (hi 1 (by decide)) ?_
  refine V_aload_n (i := 0) (pc := 1202) dL_law_1202 rfl rfl ?_
  refine V_iload_n (i := 3) (pc := 1203) dL_law_1203 rfl rfl ?_
  refine V_iconst (v := 2) (pc := 1204) dL_law_1204 rfl ?_
  refine V_iadd (pc := 1205) dL_law_1205 ?_
  refine V_sld (pc := 1206) dL_law_1206 (hi 2 (by decide)) ?_
  refine V_aload_n (i := 0) (pc := 1207) dL_law_1207 rfl rfl ?_
  refine V_iload_n (i := 3) (pc := 1208) dL_law_1208 rfl rfl ?_
  refine V_iconst (v := 3) (pc := 1209) dL_law_1209 rfl ?_
  refine V_iadd (pc := 1210) dL_law_1210 ?_
  refine V_sld (pc := 1211) dL_law_1211 (hi 3 (by decide)) ?_
  refine V_invV1 (c := 11) (pc := 1212) dL_law_1212 (e_Mo_least kd298 e2) iv_La_154 (rmL (Nat.le_of_ble_eq_true rfl) (Nat.le_of_ble_eq_true rfl)) rfl kd298 cf_11 rfl (Nat.le_of_ble_eq_true rfl) rfl ?_
  exact V_icmp_eq (tgt := 2017) (pc := 1215) dL_law_1215 rfl (fun _ => kk _ R2) (fun q => absurd rfl q)
theorem lwc_33 {g : GE} {b : Nat} {m : Mem} {i : Int32} (hi : ∀ k : Nat, k < 6 → inb (i + nI k) g.2.2.2.2.1) (R : RR m) (kk : ∀ m2, RR m2 → V g Y_law 2017 [some (vr 3000), some (vr 1), some (vr 298), some (vi i)] [] m2 (ZL g b)) : V g Y_law 1220 [some (vr 3000), some (vr 1), some (vr 298), some (vi i)] [] m (ZL g b) := by
  obtain ⟨r, m1, m2, e1, e2, R2⟩ := st_load (g.2.2.2.2.2 (ix (i + 1))) (g.2.2.2.2.2 (ix (i + 2))) (g.2.2.2.2.2 (ix (i + 3))) m R
  have e1 : PL_load 1 (g.2.2.2.2.2 (ix (i + 1))) (g.2.2.2.2.2 (ix (i + 2))) (g.2.2.2.2.2 (ix (i + 3))) _ = some (r, _) := e1
  have e2 : Mo_load 298 (g.2.2.2.2.2 (ix (i + 1))) (g.2.2.2.2.2 (ix (i + 2))) (g.2.2.2.2.2 (ix (i + 3))) _ = some (r, _) := e2
  refine V_aload_n (i := 1) (pc := 1220) dL_law_1220 rfl rfl ?_
  refine V_aload_n (i := 0) (pc := 1221) dL_law_1221 rfl rfl ?_
  refine V_iload_n (i := 3) (pc := 1222) dL_law_1222 rfl rfl ?_
  refine V_iconst (v := 1) (pc := 1223) dL_law_1223 rfl ?_
  refine V_iadd (pc := 1224) dL_law_1224 ?_
  refine V_sld (pc := 1225) dL_law_1225 (hi 1 (by decide)) ?_
  refine V_aload_n (i := 0) (pc := 1226) dL_law_1226 rfl rfl ?_
  refine V_iload_n (i := 3) (pc := 1227) dL_law_1227 rfl rfl ?_
  refine V_iconst (v := 2) (pc := 1228) dL_law_1228 rfl ?_
  refine V_iadd (pc := 1229) dL_law_1229 ?_
  refine V_sld (pc := 1230) dL_law_1230 (hi 2 (by decide)) ?_
  refine V_aload_n (i := 0) (pc := 1231) dL_law_1231 rfl rfl ?_
  refine V_iload_n (i := 3) (pc := 1232) dL_law_1232 rfl rfl ?_
  refine V_iconst (v := 3) (pc := 1233) dL_law_1233 rfl ?_
  refine V_iadd (pc := 1234) dL_law_1234 ?_
  refine V_sld (pc := 1235) dL_law_1235 (hi 3 (by decide)) ?_
  refine V_invV1 (c := 10) (pc := 1236) dL_law_1236 (e_PL_load kd1 e1) iv_La_155 (rmL (Nat.le_of_ble_eq_true rfl) (Nat.le_of_ble_eq_true rfl)) rfl kd1 cf_10 rfl (Nat.le_of_ble_eq_true rfl) rfl ?_
  refine V_aload_n (i := 2) (pc := 1239) dL_law_1239 rfl rfl ?_
  refine V_aload_n (i := 0) (pc := 1240) dL_law_1240 rfl rfl ?_
  refine V_iload_n (i := 3) (pc := 1241) dL_law_1241 rfl rfl ?_
  refine V_iconst (v := 1) (pc := 1242) dL_law_1242 rfl ?_
  refine V_iadd (pc := 1243) dL_law_1243 ?_
  refine V_sld (pc := 1244) dL_law_1244 (hi 1 (by decide)) ?_
  refine V_aload_n (i := 0) (pc := 1245) dL_law_1245 rfl rfl ?_
  refine V_iload_n (i := 3) (pc := 1246) dL_law_1246 rfl rfl ?_
  refine V_iconst (v := 2) (pc := 1247) dL_law_1247 rfl ?_
  refine V_iadd (pc := 1248) dL_law_1248 ?_
  refine V_sld (pc := 1249) dL_law_1249 (hi 2 (by decide)) ?_
  refine V_aload_n (i := 0) (pc := 1250) dL_law_1250 rfl rfl ?_
  refine V_iload_n (i := 3) (pc := 1251) dL_law_1251 rfl rfl ?_
  refine V_iconst (v := 3) (pc := 1252) dL_law_1252 rfl ?_
  refine V_iadd (pc := 1253) dL_law_1253 ?_
  refine V_sld (pc := 1254) dL_law_1254 (hi 3 (by decide)) ?_
  refine V_invV1 (c := 11) (pc := 1255) dL_law_1255 (e_Mo_load kd298 e2) iv_La_158 (rmL (Nat.le_of_ble_eq_true rfl) (Nat.le_of_ble_eq_true rfl)) rfl kd298 cf_11 rfl (Nat.le_of_ble_eq_true rfl) rfl ?_
  exact V_icmp_eq (tgt := 2017) (pc := 1258) dL_law_1258 rfl (fun _ => kk _ R2) (fun q => absurd rfl q)
theorem lwc_34 {g : GE} {b : Nat} {m : Mem} {i : Int32} (hi : ∀ k : Nat, k < 6 → inb (i + nI k) g.2.2.2.2.1) (R : RR m) (kk : ∀ m2, RR m2 → V g Y_law 2017 [some (vr 3000), some (vr 1), some (vr 298), some (vi i)] [] m2 (ZL g b)) : V g Y_law 1263 [some (vr 3000), some (vr 1), some (vr 298), some (vi i)] [] m (ZL g b) := by
  obtain ⟨r, m1, m2, e1, e2, R2⟩ := st_lasts (g.2.2.2.2.2 (ix (i + 1))) (g.2.2.2.2.2 (ix (i + 2))) m R
  have e1 : PL_lasts 1 (g.2.2.2.2.2 (ix (i + 1))) (g.2.2.2.2.2 (ix (i + 2))) _ = some (r, _) := e1
  have e2 : Mo_lasts 298 (g.2.2.2.2.2 (ix (i + 1))) (g.2.2.2.2.2 (ix (i + 2))) _ = some (r, _) := e2
  refine V_aload_n (i := 1) (pc := 1263) dL_law_1263 rfl rfl ?_
  refine V_aload_n (i := 0) (pc := 1264) dL_law_1264 rfl rfl ?_
  refine V_iload_n (i := 3) (pc := 1265) dL_law_1265 rfl rfl ?_
  refine V_iconst (v := 1) (pc := 1266) dL_law_1266 rfl ?_
  refine V_iadd (pc := 1267) dL_law_1267 ?_
  refine V_sld (pc := 1268) dL_law_1268 (hi 1 (by decide)) ?_
  refine V_aload_n (i := 0) (pc := 1269) dL_law_1269 rfl rfl ?_
  refine V_iload_n (i := 3) (pc := 1270) dL_law_1270 rfl rfl ?_
  refine V_iconst (v := 2) (pc := 1271) dL_law_1271 rfl ?_
  refine V_iadd (pc := 1272) dL_law_1272 ?_
  refine V_sld (pc := 1273) dL_law_1273 (hi 2 (by decide)) ?_
  refine V_invV1 (c := 10) (pc := 1274) dL_law_1274 (e_PL_lasts kd1 e1) iv_La_159 (rmL (Nat.le_of_ble_eq_true rfl) (Nat.le_of_ble_eq_true rfl)) rfl kd1 cf_10 rfl (Nat.le_of_ble_eq_true rfl) rfl ?_
  refine V_aload_n (i := 2) (pc := 1277) dL_law_1277 rfl rfl ?_
  refine V_aload_n (i := 0) (pc := 1278) dL_law_1278 rfl rfl ?_
  refine V_iload_n (i := 3) (pc := 1279) dL_law_1279 rfl rfl ?_
  refine V_iconst (v := 1) (pc := 1280) dL_law_1280 rfl ?_
  refine V_iadd (pc := 1281) dL_law_1281 ?_
  refine V_sld (pc := 1282) dL_law_1282 (hi 1 (by decide)) ?_
  refine V_aload_n (i := 0) (pc := 1283) dL_law_1283 rfl rfl ?_
  refine V_iload_n (i := 3) (pc := 1284) dL_law_1284 rfl rfl ?_
  refine V_iconst (v := 2) (pc := 1285) dL_law_1285 rfl ?_
  refine V_iadd (pc := 1286) dL_law_1286 ?_
  refine V_sld (pc := 1287) dL_law_1287 (hi 2 (by decide)) ?_
  refine V_invV1 (c := 11) (pc := 1288) dL_law_1288 (e_Mo_lasts kd298 e2) iv_La_162 (rmL (Nat.le_of_ble_eq_true rfl) (Nat.le_of_ble_eq_true rfl)) rfl kd298 cf_11 rfl (Nat.le_of_ble_eq_true rfl) rfl ?_
  exact V_icmp_eq (tgt := 2017) (pc := 1291) dL_law_1291 rfl (fun _ => kk _ R2) (fun q => absurd rfl q)
theorem lwc_35 {g : GE} {b : Nat} {m : Mem} {i : Int32} (hi : ∀ k : Nat, k < 6 → inb (i + nI k) g.2.2.2.2.1) (R : RR m) (kk : ∀ m2, RR m2 → V g Y_law 2017 [some (vr 3000), some (vr 1), some (vr 298), some (vi i)] [] m2 (ZL g b)) : V g Y_law 1296 [some (vr 3000), some (vr 1), some (vr 298), some (vi i)] [] m (ZL g b) := by
  obtain ⟨r, m1, m2, e1, e2, R2⟩ := st_across (g.2.2.2.2.2 (ix (i + 1))) (g.2.2.2.2.2 (ix (i + 2))) (g.2.2.2.2.2 (ix (i + 3))) m R
  obtain ⟨e1, h1⟩ := rd_o e1
  subst h1
  obtain ⟨e2, h2⟩ := rd_o e2
  subst h2
  have e1 : PL_across 1 (g.2.2.2.2.2 (ix (i + 1))) (g.2.2.2.2.2 (ix (i + 2))) (g.2.2.2.2.2 (ix (i + 3))) _ = some r := e1
  have e2 : Mo_across 298 (g.2.2.2.2.2 (ix (i + 1))) (g.2.2.2.2.2 (ix (i + 2))) (g.2.2.2.2.2 (ix (i + 3))) _ = some r := e2
  refine V_aload_n (i := 1) (pc := 1296) dL_law_1296 rfl rfl ?_
  refine V_aload_n (i := 0) (pc := 1297) dL_law_1297 rfl rfl ?_
  refine V_iload_n (i := 3) (pc := 1298) dL_law_1298 rfl rfl ?_
  refine V_iconst (v := 1) (pc := 1299) dL_law_1299 rfl ?_
  refine V_iadd (pc := 1300) dL_law_1300 ?_
  refine V_sld (pc := 1301) dL_law_1301 (hi 1 (by decide)) ?_
  refine V_aload_n (i := 0) (pc := 1302) dL_law_1302 rfl rfl ?_
  refine V_iload_n (i := 3) (pc := 1303) dL_law_1303 rfl rfl ?_
  refine V_iconst (v := 2) (pc := 1304) dL_law_1304 rfl ?_
  refine V_iadd (pc := 1305) dL_law_1305 ?_
  refine V_sld (pc := 1306) dL_law_1306 (hi 2 (by decide)) ?_
  refine V_aload_n (i := 0) (pc := 1307) dL_law_1307 rfl rfl ?_
  refine V_iload_n (i := 3) (pc := 1308) dL_law_1308 rfl rfl ?_
  refine V_iconst (v := 3) (pc := 1309) dL_law_1309 rfl ?_
  refine V_iadd (pc := 1310) dL_law_1310 ?_
  refine V_sld (pc := 1311) dL_law_1311 (hi 3 (by decide)) ?_
  refine V_invV1 (c := 10) (pc := 1312) dL_law_1312 (e_PL_across kd1 e1) iv_La_163 (rmL (Nat.le_of_ble_eq_true rfl) (Nat.le_of_ble_eq_true rfl)) rfl kd1 cf_10 rfl (Nat.le_of_ble_eq_true rfl) rfl ?_
  refine V_aload_n (i := 2) (pc := 1315) dL_law_1315 rfl rfl ?_
  refine V_aload_n (i := 0) (pc := 1316) dL_law_1316 rfl rfl ?_
  refine V_iload_n (i := 3) (pc := 1317) dL_law_1317 rfl rfl ?_
  refine V_iconst (v := 1) (pc := 1318) dL_law_1318 rfl ?_
  refine V_iadd (pc := 1319) dL_law_1319 ?_
  refine V_sld (pc := 1320) dL_law_1320 (hi 1 (by decide)) ?_
  refine V_aload_n (i := 0) (pc := 1321) dL_law_1321 rfl rfl ?_
  refine V_iload_n (i := 3) (pc := 1322) dL_law_1322 rfl rfl ?_
  refine V_iconst (v := 2) (pc := 1323) dL_law_1323 rfl ?_
  refine V_iadd (pc := 1324) dL_law_1324 ?_
  refine V_sld (pc := 1325) dL_law_1325 (hi 2 (by decide)) ?_
  refine V_aload_n (i := 0) (pc := 1326) dL_law_1326 rfl rfl ?_
  refine V_iload_n (i := 3) (pc := 1327) dL_law_1327 rfl rfl ?_
  refine V_iconst (v := 3) (pc := 1328) dL_law_1328 rfl ?_
  refine V_iadd (pc := 1329) dL_law_1329 ?_
  refine V_sld (pc := 1330) dL_law_1330 (hi 3 (by decide)) ?_
  refine V_invV1 (c := 11) (pc := 1331) dL_law_1331 (e_Mo_across kd298 e2) iv_La_166 (rmL (Nat.le_of_ble_eq_true rfl) (Nat.le_of_ble_eq_true rfl)) rfl kd298 cf_11 rfl (Nat.le_of_ble_eq_true rfl) rfl ?_
  exact V_icmp_eq (tgt := 2017) (pc := 1334) dL_law_1334 rfl (fun _ => kk _ R2) (fun q => absurd rfl q)
theorem lwc_36 {g : GE} {b : Nat} {m : Mem} {i : Int32} (hi : ∀ k : Nat, k < 6 → inb (i + nI k) g.2.2.2.2.1) (R : RR m) (kk : ∀ m2, RR m2 → V g Y_law 2017 [some (vr 3000), some (vr 1), some (vr 298), some (vi i)] [] m2 (ZL g b)) : V g Y_law 1339 [some (vr 3000), some (vr 1), some (vr 298), some (vi i)] [] m (ZL g b) := by
  obtain ⟨r, m1, m2, e1, e2, R2⟩ := st_minutes (g.2.2.2.2.2 (ix (i + 1))) (g.2.2.2.2.2 (ix (i + 2))) (g.2.2.2.2.2 (ix (i + 3))) (g.2.2.2.2.2 (ix (i + 4))) m R
  obtain ⟨e1, h1⟩ := rd_o e1
  subst h1
  obtain ⟨e2, h2⟩ := rd_o e2
  subst h2
  have e1 : PL_minutes 1 (g.2.2.2.2.2 (ix (i + 1))) (g.2.2.2.2.2 (ix (i + 2))) (g.2.2.2.2.2 (ix (i + 3))) (g.2.2.2.2.2 (ix (i + 4))) _ = some r := e1
  have e2 : Mo_minutes 298 (g.2.2.2.2.2 (ix (i + 1))) (g.2.2.2.2.2 (ix (i + 2))) (g.2.2.2.2.2 (ix (i + 3))) (g.2.2.2.2.2 (ix (i + 4))) _ = some r := e2
  refine V_aload_n (i := 1) (pc := 1339) dL_law_1339 rfl rfl ?_
  refine V_aload_n (i := 0) (pc := 1340) dL_law_1340 rfl rfl ?_
  refine V_iload_n (i := 3) (pc := 1341) dL_law_1341 rfl rfl ?_
  refine V_iconst (v := 1) (pc := 1342) dL_law_1342 rfl ?_
  refine V_iadd (pc := 1343) dL_law_1343 ?_
  refine V_sld (pc := 1344) dL_law_1344 (hi 1 (by decide)) ?_
  refine V_aload_n (i := 0) (pc := 1345) dL_law_1345 rfl rfl ?_
  refine V_iload_n (i := 3) (pc := 1346) dL_law_1346 rfl rfl ?_
  refine V_iconst (v := 2) (pc := 1347) dL_law_1347 rfl ?_
  refine V_iadd (pc := 1348) dL_law_1348 ?_
  refine V_sld (pc := 1349) dL_law_1349 (hi 2 (by decide)) ?_
  refine V_aload_n (i := 0) (pc := 1350) dL_law_1350 rfl rfl ?_
  refine V_iload_n (i := 3) (pc := 1351) dL_law_1351 rfl rfl ?_
  refine V_iconst (v := 3) (pc := 1352) dL_law_1352 rfl ?_
  refine V_iadd (pc := 1353) dL_law_1353 ?_
  refine V_sld (pc := 1354) dL_law_1354 (hi 3 (by decide)) ?_
  refine V_aload_n (i := 0) (pc := 1355) dL_law_1355 rfl rfl ?_
  refine V_iload_n (i := 3) (pc := 1356) dL_law_1356 rfl rfl ?_
  refine V_iconst (v := 4) (pc := 1357) dL_law_1357 rfl ?_
  refine V_iadd (pc := 1358) dL_law_1358 ?_
  refine V_sld (pc := 1359) dL_law_1359 (hi 4 (by decide)) ?_
  refine V_invV1 (c := 10) (pc := 1360) dL_law_1360 (e_PL_minutes kd1 e1) iv_La_167 (rmL (Nat.le_of_ble_eq_true rfl) (Nat.le_of_ble_eq_true rfl)) rfl kd1 cf_10 rfl (Nat.le_of_ble_eq_true rfl) rfl ?_
  refine V_aload_n (i := 2) (pc := 1363) dL_law_1363 rfl rfl ?_
  refine V_aload_n (i := 0) (pc := 1364) dL_law_1364 rfl rfl ?_
  refine V_iload_n (i := 3) (pc := 1365) dL_law_1365 rfl rfl ?_
  refine V_iconst (v := 1) (pc := 1366) dL_law_1366 rfl ?_
  refine V_iadd (pc := 1367) dL_law_1367 ?_
  refine V_sld (pc := 1368) dL_law_1368 (hi 1 (by decide)) ?_
  refine V_aload_n (i := 0) (pc := 1369) dL_law_1369 rfl rfl ?_
  refine V_iload_n (i := 3) (pc := 1370) dL_law_1370 rfl rfl ?_
  refine V_iconst (v := 2) (pc := 1371) dL_law_1371 rfl ?_
  refine V_iadd (pc := 1372) dL_law_1372 ?_
  refine V_sld (pc := 1373) dL_law_1373 (hi 2 (by decide)) ?_
  refine V_aload_n (i := 0) (pc := 1374) dL_law_1374 rfl rfl ?_
  refine V_iload_n (i := 3) (pc := 1375) dL_law_1375 rfl rfl ?_
  refine V_iconst (v := 3) (pc := 1376) dL_law_1376 rfl ?_
  refine V_iadd (pc := 1377) dL_law_1377 ?_
  refine V_sld (pc := 1378) dL_law_1378 (hi 3 (by decide)) ?_
  refine V_aload_n (i := 0) (pc := 1379) dL_law_1379 rfl rfl ?_
  refine V_iload_n (i := 3) (pc := 1380) dL_law_1380 rfl rfl ?_
  refine V_iconst (v := 4) (pc := 1381) dL_law_1381 rfl ?_
  refine V_iadd (pc := 1382) dL_law_1382 ?_
  refine V_sld (pc := 1383) dL_law_1383 (hi 4 (by decide)) ?_
  refine V_invV1 (c := 11) (pc := 1384) dL_law_1384 (e_Mo_minutes kd298 e2) iv_La_170 (rmL (Nat.le_of_ble_eq_true rfl) (Nat.le_of_ble_eq_true rfl)) rfl kd298 cf_11 rfl (Nat.le_of_ble_eq_true rfl) rfl ?_
  exact V_icmp_eq (tgt := 2017) (pc := 1387) dL_law_1387 rfl (fun _ => kk _ R2) (fun q => absurd rfl q)
theorem lwc_37 {g : GE} {b : Nat} {m : Mem} {i : Int32} (hi : ∀ k : Nat, k < 6 → inb (i + nI k) g.2.2.2.2.1) (R : RR m) (kk : ∀ m2, RR m2 → V g Y_law 2017 [some (vr 3000), some (vr 1), some (vr 298), some (vi i)] [] m2 (ZL g b)) : V g Y_law 1392 [some (vr 3000), some (vr 1), some (vr 298), some (vi i)] [] m (ZL g b) := by
  obtain ⟨r, m1, m2, e1, e2, R2⟩ := st_fetch (g.2.2.2.2.2 (ix (i + 1))) (g.2.2.2.2.2 (ix (i + 2))) m R
  have e1 : PL_fetch 1 (g.2.2.2.2.2 (ix (i + 1))) (g.2.2.2.2.2 (ix (i + 2))) _ = some (r, _) := e1
  have e2 : Mo_fetch 298 (g.2.2.2.2.2 (ix (i + 1))) (g.2.2.2.2.2 (ix (i + 2))) _ = some (r, _) := e2
  refine V_aload_n (i := 1) (pc := 1392) dL_law_1392 rfl rfl ?_
  refine V_aload_n (i := 0) (pc := 1393) dL_law_1393 rfl rfl ?_
  refine V_iload_n (i := 3) (pc := 1394) dL_law_1394 rfl rfl ?_
  refine V_iconst (v := 1) (pc := 1395) dL_law_1395 rfl ?_
  refine V_iadd (pc := 1396) dL_law_1396 ?_
  refine V_sld (pc := 1397) dL_law_1397 (hi 1 (by decide)) ?_
  refine V_aload_n (i := 0) (pc := 1398) dL_law_1398 rfl rfl ?_
  refine V_iload_n (i := 3) (pc := 1399) dL_law_1399 rfl rfl ?_
  refine V_iconst (v := 2) (pc := 1400) dL_law_1400 rfl ?_
  refine V_iadd (pc := 1401) dL_law_1401 ?_
  refine V_sld (pc := 1402) dL_law_1402 (hi 2 (by decide)) ?_
  refine V_invV1 (c := 10) (pc := 1403) dL_law_1403 (e_PL_fetch kd1 e1) iv_La_171 (rmL (Nat.le_of_ble_eq_true rfl) (Nat.le_of_ble_eq_true rfl)) rfl kd1 cf_10 rfl (Nat.le_of_ble_eq_true rfl) rfl ?_
  refine V_aload_n (i := 2) (pc := 1406) dL_law_1406 rfl rfl ?_
  refine V_aload_n (i := 0) (pc := 1407) dL_law_1407 rfl rfl ?_
  refine V_iload_n (i := 3) (pc := 1408) dL_law_1408 rfl rfl ?_
  refine V_iconst (v := 1) (pc := 1409) dL_law_1409 rfl ?_
  refine V_iadd (pc := 1410) dL_law_1410 ?_
  refine V_sld (pc := 1411) dL_law_1411 (hi 1 (by decide)) ?_
  refine V_aload_n (i := 0) (pc := 1412) dL_law_1412 rfl rfl ?_
  refine V_iload_n (i := 3) (pc := 1413) dL_law_1413 rfl rfl ?_
  refine V_iconst (v := 2) (pc := 1414) dL_law_1414 rfl ?_
  refine V_iadd (pc := 1415) dL_law_1415 ?_
  refine V_sld (pc := 1416) dL_law_1416 (hi 2 (by decide)) ?_
  refine V_invV1 (c := 11) (pc := 1417) dL_law_1417 (e_Mo_fetch kd298 e2) iv_La_174 (rmL (Nat.le_of_ble_eq_true rfl) (Nat.le_of_ble_eq_true rfl)) rfl kd298 cf_11 rfl (Nat.le_of_ble_eq_true rfl) rfl ?_
  exact V_icmp_eq (tgt := 2017) (pc := 1420) dL_law_1420 rfl (fun _ => kk _ R2) (fun q => absurd rfl q)
theorem lwc_38 {g : GE} {b : Nat} {m : Mem} {i : Int32} (hi : ∀ k : Nat, k < 6 → inb (i + nI k) g.2.2.2.2.1) (R : RR m) (kk : ∀ m2, RR m2 → V g Y_law 2017 [some (vr 3000), some (vr 1), some (vr 298), some (vi i)] [] m2 (ZL g b)) : V g Y_law 1425 [some (vr 3000), some (vr 1), some (vr 298), some (vi i)] [] m (ZL g b) := by
  obtain ⟨r, m1, m2, e1, e2, R2⟩ := st_fetched (g.2.2.2.2.2 (ix (i + 1))) (g.2.2.2.2.2 (ix (i + 2))) (g.2.2.2.2.2 (ix (i + 3))) (g.2.2.2.2.2 (ix (i + 4))) m R
  have e1 : PL_fetched 1 (g.2.2.2.2.2 (ix (i + 1))) (g.2.2.2.2.2 (ix (i + 2))) (g.2.2.2.2.2 (ix (i + 3))) (g.2.2.2.2.2 (ix (i + 4))) _ = some (r, _) := e1
  have e2 : Mo_fetched 298 (g.2.2.2.2.2 (ix (i + 1))) (g.2.2.2.2.2 (ix (i + 2))) (g.2.2.2.2.2 (ix (i + 3))) (g.2.2.2.2.2 (ix (i + 4))) _ = some (r, _) := e2
  refine V_aload_n (i := 1) (pc := 1425) dL_law_1425 rfl rfl ?_
  refine V_aload_n (i := 0) (pc := 1426) dL_law_1426 rfl rfl ?_
  refine V_iload_n (i := 3) (pc := 1427) dL_law_1427 rfl rfl ?_
  refine V_iconst (v := 1) (pc := 1428) dL_law_1428 rfl ?_
  refine V_iadd (pc := 1429) dL_law_1429 ?_
  refine V_sld (pc := 1430) dL_law_1430 (hi 1 (by decide)) ?_
  refine V_aload_n (i := 0) (pc := 1431) dL_law_1431 rfl rfl ?_
  refine V_iload_n (i := 3) (pc := 1432) dL_law_1432 rfl rfl ?_
  refine V_iconst (v := 2) (pc := 1433) dL_law_1433 rfl ?_
  refine V_iadd (pc := 1434) dL_law_1434 ?_
  refine V_sld (pc := 1435) dL_law_1435 (hi 2 (by decide)) ?_
  refine V_aload_n (i := 0) (pc := 1436) dL_law_1436 rfl rfl ?_
  refine V_iload_n (i := 3) (pc := 1437) dL_law_1437 rfl rfl ?_
  refine V_iconst (v := 3) (pc := 1438) dL_law_1438 rfl ?_
  refine V_iadd (pc := 1439) dL_law_1439 ?_
  refine V_sld (pc := 1440) dL_law_1440 (hi 3 (by decide)) ?_
  refine V_aload_n (i := 0) (pc := 1441) dL_law_1441 rfl rfl ?_
  refine V_iload_n (i := 3) (pc := 1442) dL_law_1442 rfl rfl ?_
  refine V_iconst (v := 4) (pc := 1443) dL_law_1443 rfl ?_
  refine V_iadd (pc := 1444) dL_law_1444 ?_
  refine V_sld (pc := 1445) dL_law_1445 (hi 4 (by decide)) ?_
  refine V_invV1 (c := 10) (pc := 1446) dL_law_1446 (e_PL_fetched kd1 e1) iv_La_175 (rmL (Nat.le_of_ble_eq_true rfl) (Nat.le_of_ble_eq_true rfl)) rfl kd1 cf_10 rfl (Nat.le_of_ble_eq_true rfl) rfl ?_
  refine V_aload_n (i := 2) (pc := 1449) dL_law_1449 rfl rfl ?_
  refine V_aload_n (i := 0) (pc := 1450) dL_law_1450 rfl rfl ?_
  refine V_iload_n (i := 3) (pc := 1451) dL_law_1451 rfl rfl ?_
  refine V_iconst (v := 1) (pc := 1452) dL_law_1452 rfl ?_
  refine V_iadd (pc := 1453) dL_law_1453 ?_
  refine V_sld (pc := 1454) dL_law_1454 (hi 1 (by decide)) ?_
  refine V_aload_n (i := 0) (pc := 1455) dL_law_1455 rfl rfl ?_
  refine V_iload_n (i := 3) (pc := 1456) dL_law_1456 rfl rfl ?_
  refine V_iconst (v := 2) (pc := 1457) dL_law_1457 rfl ?_
  refine V_iadd (pc := 1458) dL_law_1458 ?_
  refine V_sld (pc := 1459) dL_law_1459 (hi 2 (by decide)) ?_
  refine V_aload_n (i := 0) (pc := 1460) dL_law_1460 rfl rfl ?_
  refine V_iload_n (i := 3) (pc := 1461) dL_law_1461 rfl rfl ?_
  refine V_iconst (v := 3) (pc := 1462) dL_law_1462 rfl ?_
  refine V_iadd (pc := 1463) dL_law_1463 ?_
  refine V_sld (pc := 1464) dL_law_1464 (hi 3 (by decide)) ?_
  refine V_aload_n (i := 0) (pc := 1465) dL_law_1465 rfl rfl ?_
  refine V_iload_n (i := 3) (pc := 1466) dL_law_1466 rfl rfl ?_
  refine V_iconst (v := 4) (pc := 1467) dL_law_1467 rfl ?_
  refine V_iadd (pc := 1468) dL_law_1468 ?_
  refine V_sld (pc := 1469) dL_law_1469 (hi 4 (by decide)) ?_
  refine V_invV1 (c := 11) (pc := 1470) dL_law_1470 (e_Mo_fetched kd298 e2) iv_La_178 (rmL (Nat.le_of_ble_eq_true rfl) (Nat.le_of_ble_eq_true rfl)) rfl kd298 cf_11 rfl (Nat.le_of_ble_eq_true rfl) rfl ?_
  exact V_icmp_eq (tgt := 2017) (pc := 1473) dL_law_1473 rfl (fun _ => kk _ R2) (fun q => absurd rfl q)
theorem lwc_39 {g : GE} {b : Nat} {m : Mem} {i : Int32} (hi : ∀ k : Nat, k < 6 → inb (i + nI k) g.2.2.2.2.1) (R : RR m) (kk : ∀ m2, RR m2 → V g Y_law 2017 [some (vr 3000), some (vr 1), some (vr 298), some (vi i)] [] m2 (ZL g b)) : V g Y_law 1478 [some (vr 3000), some (vr 1), some (vr 298), some (vi i)] [] m (ZL g b) := by
  obtain ⟨r, m1, m2, e1, e2, R2⟩ := st_thin (g.2.2.2.2.2 (ix (i + 1))) (g.2.2.2.2.2 (ix (i + 2))) m R
  obtain ⟨e1, h1⟩ := rd_o e1
  subst h1
  obtain ⟨e2, h2⟩ := rd_o e2
  subst h2
  have e1 : PL_thin 1 (g.2.2.2.2.2 (ix (i + 1))) (g.2.2.2.2.2 (ix (i + 2))) _ = some r := e1
  have e2 : Mo_thin 298 (g.2.2.2.2.2 (ix (i + 1))) (g.2.2.2.2.2 (ix (i + 2))) _ = some r := e2
  refine V_aload_n (i := 1) (pc := 1478) dL_law_1478 rfl rfl ?_
  refine V_aload_n (i := 0) (pc := 1479) dL_law_1479 rfl rfl ?_
  refine V_iload_n (i := 3) (pc := 1480) dL_law_1480 rfl rfl ?_
  refine V_iconst (v := 1) (pc := 1481) dL_law_1481 rfl ?_
  refine V_iadd (pc := 1482) dL_law_1482 ?_
  refine V_sld (pc := 1483) dL_law_1483 (hi 1 (by decide)) ?_
  refine V_aload_n (i := 0) (pc := 1484) dL_law_1484 rfl rfl ?_
  refine V_iload_n (i := 3) (pc := 1485) dL_law_1485 rfl rfl ?_
  refine V_iconst (v := 2) (pc := 1486) dL_law_1486 rfl ?_
  refine V_iadd (pc := 1487) dL_law_1487 ?_
  refine V_sld (pc := 1488) dL_law_1488 (hi 2 (by decide)) ?_
  refine V_invV1 (c := 10) (pc := 1489) dL_law_1489 (e_PL_thin kd1 e1) iv_La_179 (rmL (Nat.le_of_ble_eq_true rfl) (Nat.le_of_ble_eq_true rfl)) rfl kd1 cf_10 rfl (Nat.le_of_ble_eq_true rfl) rfl ?_
  refine V_aload_n (i := 2) (pc := 1492) dL_law_1492 rfl rfl ?_
  refine V_aload_n (i := 0) (pc := 1493) dL_law_1493 rfl rfl ?_
  refine V_iload_n (i := 3) (pc := 1494) dL_law_1494 rfl rfl ?_
  refine V_iconst (v := 1) (pc := 1495) dL_law_1495 rfl ?_
  refine V_iadd (pc := 1496) dL_law_1496 ?_
  refine V_sld (pc := 1497) dL_law_1497 (hi 1 (by decide)) ?_
  refine V_aload_n (i := 0) (pc := 1498) dL_law_1498 rfl rfl ?_
  refine V_iload_n (i := 3) (pc := 1499) dL_law_1499 rfl rfl ?_
  refine V_iconst (v := 2) (pc := 1500) dL_law_1500 rfl ?_
  refine V_iadd (pc := 1501) dL_law_1501 ?_
  refine V_sld (pc := 1502) dL_law_1502 (hi 2 (by decide)) ?_
  refine V_invV1 (c := 11) (pc := 1503) dL_law_1503 (e_Mo_thin kd298 e2) iv_La_182 (rmL (Nat.le_of_ble_eq_true rfl) (Nat.le_of_ble_eq_true rfl)) rfl kd298 cf_11 rfl (Nat.le_of_ble_eq_true rfl) rfl ?_
  exact V_icmp_eq (tgt := 2017) (pc := 1506) dL_law_1506 rfl (fun _ => kk _ R2) (fun q => absurd rfl q)
theorem lwc_40 {g : GE} {b : Nat} {m : Mem} {i : Int32} (hi : ∀ k : Nat, k < 6 → inb (i + nI k) g.2.2.2.2.1) (R : RR m) (kk : ∀ m2, RR m2 → V g Y_law 2017 [some (vr 3000), some (vr 1), some (vr 298), some (vi i)] [] m2 (ZL g b)) : V g Y_law 1511 [some (vr 3000), some (vr 1), some (vr 298), some (vi i)] [] m (ZL g b) := by
  obtain ⟨r, m1, m2, e1, e2, R2⟩ := st_apart (g.2.2.2.2.2 (ix (i + 1))) (g.2.2.2.2.2 (ix (i + 2))) m R
  obtain ⟨e1, h1⟩ := rd_o e1
  subst h1
  obtain ⟨e2, h2⟩ := rd_o e2
  subst h2
  have e1 : PL_apart 1 (g.2.2.2.2.2 (ix (i + 1))) (g.2.2.2.2.2 (ix (i + 2))) _ = some r := e1
  have e2 : Mo_apart 298 (g.2.2.2.2.2 (ix (i + 1))) (g.2.2.2.2.2 (ix (i + 2))) _ = some r := e2
  refine V_aload_n (i := 1) (pc := 1511) dL_law_1511 rfl rfl ?_
  refine V_aload_n (i := 0) (pc := 1512) dL_law_1512 rfl rfl ?_
  refine V_iload_n (i := 3) (pc := 1513) dL_law_1513 rfl rfl ?_
  refine V_iconst (v := 1) (pc := 1514) dL_law_1514 rfl ?_
  refine V_iadd (pc := 1515) dL_law_1515 ?_
  refine V_sld (pc := 1516) dL_law_1516 (hi 1 (by decide)) ?_
  refine V_aload_n (i := 0) (pc := 1517) dL_law_1517 rfl rfl ?_
  refine V_iload_n (i := 3) (pc := 1518) dL_law_1518 rfl rfl ?_
  refine V_iconst (v := 2) (pc := 1519) dL_law_1519 rfl ?_
  refine V_iadd (pc := 1520) dL_law_1520 ?_
  refine V_sld (pc := 1521) dL_law_1521 (hi 2 (by decide)) ?_
  refine V_invV1 (c := 10) (pc := 1522) dL_law_1522 (e_PL_apart kd1 e1) iv_La_183 (rmL (Nat.le_of_ble_eq_true rfl) (Nat.le_of_ble_eq_true rfl)) rfl kd1 cf_10 rfl (Nat.le_of_ble_eq_true rfl) rfl ?_
  refine V_aload_n (i := 2) (pc := 1525) dL_law_1525 rfl rfl ?_
  refine V_aload_n (i := 0) (pc := 1526) dL_law_1526 rfl rfl ?_
  refine V_iload_n (i := 3) (pc := 1527) dL_law_1527 rfl rfl ?_
  refine V_iconst (v := 1) (pc := 1528) dL_law_1528 rfl ?_
  refine V_iadd (pc := 1529) dL_law_1529 ?_
  refine V_sld (pc := 1530) dL_law_1530 (hi 1 (by decide)) ?_
  refine V_aload_n (i := 0) (pc := 1531) dL_law_1531 rfl rfl ?_
  refine V_iload_n (i := 3) (pc := 1532) dL_law_1532 rfl rfl ?_
  refine V_iconst (v := 2) (pc := 1533) dL_law_1533 rfl ?_
  refine V_iadd (pc := 1534) dL_law_1534 ?_
  refine V_sld (pc := 1535) dL_law_1535 (hi 2 (by decide)) ?_
  refine V_invV1 (c := 11) (pc := 1536) dL_law_1536 (e_Mo_apart kd298 e2) iv_La_186 (rmL (Nat.le_of_ble_eq_true rfl) (Nat.le_of_ble_eq_true rfl)) rfl kd298 cf_11 rfl (Nat.le_of_ble_eq_true rfl) rfl ?_
  exact V_icmp_eq (tgt := 2017) (pc := 1539) dL_law_1539 rfl (fun _ => kk _ R2) (fun q => absurd rfl q)
theorem lwc_41 {g : GE} {b : Nat} {m : Mem} {i : Int32} (hi : ∀ k : Nat, k < 6 → inb (i + nI k) g.2.2.2.2.1) (R : RR m) (kk : ∀ m2, RR m2 → V g Y_law 2017 [some (vr 3000), some (vr 1), some (vr 298), some (vi i)] [] m2 (ZL g b)) : V g Y_law 1544 [some (vr 3000), some (vr 1), some (vr 298), some (vi i)] [] m (ZL g b) := by
  obtain ⟨r, m1, m2, e1, e2, R2⟩ := st_miles (g.2.2.2.2.2 (ix (i + 1))) (g.2.2.2.2.2 (ix (i + 2))) m R
  have e1 : PL_miles 1 (g.2.2.2.2.2 (ix (i + 1))) (g.2.2.2.2.2 (ix (i + 2))) _ = some (r, _) := e1
  have e2 : Mo_miles 298 (g.2.2.2.2.2 (ix (i + 1))) (g.2.2.2.2.2 (ix (i + 2))) _ = some (r, _) := e2
  refine V_aload_n (i := 1) (pc := 1544) dL_law_1544 rfl rfl ?_
  refine V_aload_n (i := 0) (pc := 1545) dL_law_1545 rfl rfl ?_
  refine V_iload_n (i := 3) (pc := 1546) dL_law_1546 rfl rfl ?_
  refine V_iconst (v := 1) (pc := 1547) dL_law_1547 rfl ?_
  refine V_iadd (pc := 1548) dL_law_1548 ?_
  refine V_sld (pc := 1549) dL_law_1549 (hi 1 (by decide)) ?_
  refine V_aload_n (i := 0) (pc := 1550) dL_law_1550 rfl rfl ?_
  refine V_iload_n (i := 3) (pc := 1551) dL_law_1551 rfl rfl ?_
  refine V_iconst (v := 2) (pc := 1552) dL_law_1552 rfl ?_
  refine V_iadd (pc := 1553) dL_law_1553 ?_
  refine V_sld (pc := 1554) dL_law_1554 (hi 2 (by decide)) ?_
  refine V_invV1 (c := 10) (pc := 1555) dL_law_1555 (e_PL_miles kd1 e1) iv_La_187 (rmL (Nat.le_of_ble_eq_true rfl) (Nat.le_of_ble_eq_true rfl)) rfl kd1 cf_10 rfl (Nat.le_of_ble_eq_true rfl) rfl ?_
  refine V_aload_n (i := 2) (pc := 1558) dL_law_1558 rfl rfl ?_
  refine V_aload_n (i := 0) (pc := 1559) dL_law_1559 rfl rfl ?_
  refine V_iload_n (i := 3) (pc := 1560) dL_law_1560 rfl rfl ?_
  refine V_iconst (v := 1) (pc := 1561) dL_law_1561 rfl ?_
  refine V_iadd (pc := 1562) dL_law_1562 ?_
  refine V_sld (pc := 1563) dL_law_1563 (hi 1 (by decide)) ?_
  refine V_aload_n (i := 0) (pc := 1564) dL_law_1564 rfl rfl ?_
  refine V_iload_n (i := 3) (pc := 1565) dL_law_1565 rfl rfl ?_
  refine V_iconst (v := 2) (pc := 1566) dL_law_1566 rfl ?_
  refine V_iadd (pc := 1567) dL_law_1567 ?_
  refine V_sld (pc := 1568) dL_law_1568 (hi 2 (by decide)) ?_
  refine V_invV1 (c := 11) (pc := 1569) dL_law_1569 (e_Mo_miles kd298 e2) iv_La_191 (rmL (Nat.le_of_ble_eq_true rfl) (Nat.le_of_ble_eq_true rfl)) rfl kd298 cf_11 rfl (Nat.le_of_ble_eq_true rfl) rfl ?_
  exact V_lif_eq (tgt := 2017) (pc := 1572) dL_law_1572 dL_law_1573 rfl (fun _ => kk _ R2) (fun q => absurd rfl q)
theorem lwc_42 {g : GE} {b : Nat} {m : Mem} {i : Int32} (hi : ∀ k : Nat, k < 6 → inb (i + nI k) g.2.2.2.2.1) (R : RR m) (kk : ∀ m2, RR m2 → V g Y_law 2017 [some (vr 3000), some (vr 1), some (vr 298), some (vi i)] [] m2 (ZL g b)) : V g Y_law 1578 [some (vr 3000), some (vr 1), some (vr 298), some (vi i)] [] m (ZL g b) := by
  obtain ⟨r, m1, m2, e1, e2, R2⟩ := st_boats (g.2.2.2.2.2 (ix (i + 1))) (g.2.2.2.2.2 (ix (i + 2))) m R
  have e1 : PL_boats 1 (g.2.2.2.2.2 (ix (i + 1))) (g.2.2.2.2.2 (ix (i + 2))) _ = some (r, _) := e1
  have e2 : Mo_boats 298 (g.2.2.2.2.2 (ix (i + 1))) (g.2.2.2.2.2 (ix (i + 2))) _ = some (r, _) := e2
  refine V_aload_n (i := 1) (pc := 1578) dL_law_1578 rfl rfl ?_
  refine V_aload_n (i := 0) (pc := 1579) dL_law_1579 rfl rfl ?_
  refine V_iload_n (i := 3) (pc := 1580) dL_law_1580 rfl rfl ?_
  refine V_iconst (v := 1) (pc := 1581) dL_law_1581 rfl ?_
  refine V_iadd (pc := 1582) dL_law_1582 ?_
  refine V_sld (pc := 1583) dL_law_1583 (hi 1 (by decide)) ?_
  refine V_aload_n (i := 0) (pc := 1584) dL_law_1584 rfl rfl ?_
  refine V_iload_n (i := 3) (pc := 1585) dL_law_1585 rfl rfl ?_
  refine V_iconst (v := 2) (pc := 1586) dL_law_1586 rfl ?_
  refine V_iadd (pc := 1587) dL_law_1587 ?_
  refine V_sld (pc := 1588) dL_law_1588 (hi 2 (by decide)) ?_
  refine V_invV1 (c := 10) (pc := 1589) dL_law_1589 (e_PL_boats kd1 e1) iv_La_192 (rmL (Nat.le_of_ble_eq_true rfl) (Nat.le_of_ble_eq_true rfl)) rfl kd1 cf_10 rfl (Nat.le_of_ble_eq_true rfl) rfl ?_
  refine V_aload_n (i := 2) (pc := 1592) dL_law_1592 rfl rfl ?_
  refine V_aload_n (i := 0) (pc := 1593) dL_law_1593 rfl rfl ?_
  refine V_iload_n (i := 3) (pc := 1594) dL_law_1594 rfl rfl ?_
  refine V_iconst (v := 1) (pc := 1595) dL_law_1595 rfl ?_
  refine V_iadd (pc := 1596) dL_law_1596 ?_
  refine V_sld (pc := 1597) dL_law_1597 (hi 1 (by decide)) ?_
  refine V_aload_n (i := 0) (pc := 1598) dL_law_1598 rfl rfl ?_
  refine V_iload_n (i := 3) (pc := 1599) dL_law_1599 rfl rfl ?_
  refine V_iconst (v := 2) (pc := 1600) dL_law_1600 rfl ?_
  refine V_iadd (pc := 1601) dL_law_1601 ?_
  refine V_sld (pc := 1602) dL_law_1602 (hi 2 (by decide)) ?_
  refine V_invV1 (c := 11) (pc := 1603) dL_law_1603 (e_Mo_boats kd298 e2) iv_La_195 (rmL (Nat.le_of_ble_eq_true rfl) (Nat.le_of_ble_eq_true rfl)) rfl kd298 cf_11 rfl (Nat.le_of_ble_eq_true rfl) rfl ?_
  exact V_icmp_eq (tgt := 2017) (pc := 1606) dL_law_1606 rfl (fun _ => kk _ R2) (fun q => absurd rfl q)
theorem lwc_43 {g : GE} {b : Nat} {m : Mem} {i : Int32} (hi : ∀ k : Nat, k < 6 → inb (i + nI k) g.2.2.2.2.1) (R : RR m) (kk : ∀ m2, RR m2 → V g Y_law 2017 [some (vr 3000), some (vr 1), some (vr 298), some (vi i)] [] m2 (ZL g b)) : V g Y_law 1611 [some (vr 3000), some (vr 1), some (vr 298), some (vi i)] [] m (ZL g b) := by
  obtain ⟨r, m1, m2, e1, e2, R2⟩ := st_saw (g.2.2.2.2.2 (ix (i + 1))) m R
  have e1 : PL_saw 1 (g.2.2.2.2.2 (ix (i + 1))) _ = some (r, _) := e1
  have e2 : Mo_saw 298 (g.2.2.2.2.2 (ix (i + 1))) _ = some (r, _) := e2
  refine V_aload_n (i := 1) (pc := 1611) dL_law_1611 rfl rfl ?_
  refine V_aload_n (i := 0) (pc := 1612) dL_law_1612 rfl rfl ?_
  refine V_iload_n (i := 3) (pc := 1613) dL_law_1613 rfl rfl ?_
  refine V_iconst (v := 1) (pc := 1614) dL_law_1614 rfl ?_
  refine V_iadd (pc := 1615) dL_law_1615 ?_
  refine V_sld (pc := 1616) dL_law_1616 (hi 1 (by decide)) ?_
  refine V_invV1 (c := 10) (pc := 1617) dL_law_1617 (e_PL_saw kd1 e1) iv_La_196 (rmL (Nat.le_of_ble_eq_true rfl) (Nat.le_of_ble_eq_true rfl)) rfl kd1 cf_10 rfl (Nat.le_of_ble_eq_true rfl) rfl ?_
  refine V_aload_n (i := 2) (pc := 1620) dL_law_1620 rfl rfl ?_
  refine V_aload_n (i := 0) (pc := 1621) dL_law_1621 rfl rfl ?_
  refine V_iload_n (i := 3) (pc := 1622) dL_law_1622 rfl rfl ?_
  refine V_iconst (v := 1) (pc := 1623) dL_law_1623 rfl ?_
  refine V_iadd (pc := 1624) dL_law_1624 ?_
  refine V_sld (pc := 1625) dL_law_1625 (hi 1 (by decide)) ?_
  refine V_invV1 (c := 11) (pc := 1626) dL_law_1626 (e_Mo_saw kd298 e2) iv_La_199 (rmL (Nat.le_of_ble_eq_true rfl) (Nat.le_of_ble_eq_true rfl)) rfl kd298 cf_11 rfl (Nat.le_of_ble_eq_true rfl) rfl ?_
  exact V_icmp_eq (tgt := 2017) (pc := 1629) dL_law_1629 rfl (fun _ => kk _ R2) (fun q => absurd rfl q)
theorem lwc_44 {g : GE} {b : Nat} {m : Mem} {i : Int32} (hi : ∀ k : Nat, k < 6 → inb (i + nI k) g.2.2.2.2.1) (R : RR m) (kk : ∀ m2, RR m2 → V g Y_law 2017 [some (vr 3000), some (vr 1), some (vr 298), some (vi i)] [] m2 (ZL g b)) : V g Y_law 1634 [some (vr 3000), some (vr 1), some (vr 298), some (vi i)] [] m (ZL g b) := by
  obtain ⟨r, m1, m2, e1, e2, R2⟩ := st_pass (g.2.2.2.2.2 (ix (i + 1))) m R
  have e1 : PL_pass 1 (g.2.2.2.2.2 (ix (i + 1))) _ = some (r, _) := e1
  have e2 : Mo_pass 298 (g.2.2.2.2.2 (ix (i + 1))) _ = some (r, _) := e2
  refine V_aload_n (i := 1) (pc := 1634) dL_law_1634 rfl rfl ?_
  refine V_aload_n (i := 0) (pc := 1635) dL_law_1635 rfl rfl ?_
  refine V_iload_n (i := 3) (pc := 1636) dL_law_1636 rfl rfl ?_
  refine V_iconst (v := 1) (pc := 1637) dL_law_1637 rfl ?_
  refine V_iadd (pc := 1638) dL_law_1638 ?_
  refine V_sld (pc := 1639) dL_law_1639 (hi 1 (by decide)) ?_
  refine V_invV1 (c := 10) (pc := 1640) dL_law_1640 (e_PL_pass kd1 e1) iv_La_200 (rmL (Nat.le_of_ble_eq_true rfl) (Nat.le_of_ble_eq_true rfl)) rfl kd1 cf_10 rfl (Nat.le_of_ble_eq_true rfl) rfl ?_
  refine V_aload_n (i := 2) (pc := 1643) dL_law_1643 rfl rfl ?_
  refine V_aload_n (i := 0) (pc := 1644) dL_law_1644 rfl rfl ?_
  refine V_iload_n (i := 3) (pc := 1645) dL_law_1645 rfl rfl ?_
  refine V_iconst (v := 1) (pc := 1646) dL_law_1646 rfl ?_
  refine V_iadd (pc := 1647) dL_law_1647 ?_
  refine V_sld (pc := 1648) dL_law_1648 (hi 1 (by decide)) ?_
  refine V_invV1 (c := 11) (pc := 1649) dL_law_1649 (e_Mo_pass kd298 e2) iv_La_203 (rmL (Nat.le_of_ble_eq_true rfl) (Nat.le_of_ble_eq_true rfl)) rfl kd298 cf_11 rfl (Nat.le_of_ble_eq_true rfl) rfl ?_
  exact V_icmp_eq (tgt := 2017) (pc := 1652) dL_law_1652 rfl (fun _ => kk _ R2) (fun q => absurd rfl q)
theorem lwc_45 {g : GE} {b : Nat} {m : Mem} {i : Int32} (hi : ∀ k : Nat, k < 6 → inb (i + nI k) g.2.2.2.2.1) (R : RR m) (kk : ∀ m2, RR m2 → V g Y_law 2017 [some (vr 3000), some (vr 1), some (vr 298), some (vi i)] [] m2 (ZL g b)) : V g Y_law 1657 [some (vr 3000), some (vr 1), some (vr 298), some (vi i)] [] m (ZL g b) := by
  obtain ⟨r, m1, m2, e1, e2, R2⟩ := st_seam (g.2.2.2.2.2 (ix (i + 1))) m R
  obtain ⟨e1, h1⟩ := rd_o e1
  subst h1
  obtain ⟨e2, h2⟩ := rd_o e2
  subst h2
  have e1 : PL_seam 1 (g.2.2.2.2.2 (ix (i + 1))) _ = some r := e1
  have e2 : Mo_seam 298 (g.2.2.2.2.2 (ix (i + 1))) _ = some r := e2
  refine V_aload_n (i := 1) (pc := 1657) dL_law_1657 rfl rfl ?_
  refine V_aload_n (i := 0) (pc := 1658) dL_law_1658 rfl rfl ?_
  refine V_iload_n (i := 3) (pc := 1659) dL_law_1659 rfl rfl ?_
  refine V_iconst (v := 1) (pc := 1660) dL_law_1660 rfl ?_
  refine V_iadd (pc := 1661) dL_law_1661 ?_
  refine V_sld (pc := 1662) dL_law_1662 (hi 1 (by decide)) ?_
  refine V_invV1 (c := 10) (pc := 1663) dL_law_1663 (e_PL_seam kd1 e1) iv_La_204 (rmL (Nat.le_of_ble_eq_true rfl) (Nat.le_of_ble_eq_true rfl)) rfl kd1 cf_10 rfl (Nat.le_of_ble_eq_true rfl) rfl ?_
  refine V_aload_n (i := 2) (pc := 1666) dL_law_1666 rfl rfl ?_
  refine V_aload_n (i := 0) (pc := 1667) dL_law_1667 rfl rfl ?_
  refine V_iload_n (i := 3) (pc := 1668) dL_law_1668 rfl rfl ?_
  refine V_iconst (v := 1) (pc := 1669) dL_law_1669 rfl ?_
  refine V_iadd (pc := 1670) dL_law_1670 ?_
  refine V_sld (pc := 1671) dL_law_1671 (hi 1 (by decide)) ?_
  refine V_invV1 (c := 11) (pc := 1672) dL_law_1672 (e_Mo_seam kd298 e2) iv_La_207 (rmL (Nat.le_of_ble_eq_true rfl) (Nat.le_of_ble_eq_true rfl)) rfl kd298 cf_11 rfl (Nat.le_of_ble_eq_true rfl) rfl ?_
  exact V_icmp_eq (tgt := 2017) (pc := 1675) dL_law_1675 rfl (fun _ => kk _ R2) (fun q => absurd rfl q)
theorem lwc_46 {g : GE} {b : Nat} {m : Mem} {i : Int32} (hi : ∀ k : Nat, k < 6 → inb (i + nI k) g.2.2.2.2.1) (R : RR m) (kk : ∀ m2, RR m2 → V g Y_law 2017 [some (vr 3000), some (vr 1), some (vr 298), some (vi i)] [] m2 (ZL g b)) : V g Y_law 1680 [some (vr 3000), some (vr 1), some (vr 298), some (vi i)] [] m (ZL g b) := by
  obtain ⟨r, m1, m2, e1, e2, R2⟩ := st_run (g.2.2.2.2.2 (ix (i + 1))) (g.2.2.2.2.2 (ix (i + 2))) m R
  have e1 : PL_run 1 (g.2.2.2.2.2 (ix (i + 1))) (g.2.2.2.2.2 (ix (i + 2))) _ = some (r, _) := e1
  have e2 : Mo_run 298 (g.2.2.2.2.2 (ix (i + 1))) (g.2.2.2.2.2 (ix (i + 2))) _ = some (r, _) := e2
  refine V_aload_n (i := 1) (pc := 1680) dL_law_1680 rfl rfl ?_
  refine V_aload_n (i := 0) (pc := 1681) dL_law_1681 rfl rfl ?_
  refine V_iload_n (i := 3) (pc := 1682) dL_law_1682 rfl rfl ?_
  refine V_iconst (v := 1) (pc := 1683) dL_law_1683 rfl ?_
  refine V_iadd (pc := 1684) dL_law_1684 ?_
  refine V_sld (pc := 1685) dL_law_1685 (hi 1 (by decide)) ?_
  refine V_aload_n (i := 0) (pc := 1686) dL_law_1686 rfl rfl ?_
  refine V_iload_n (i := 3) (pc := 1687) dL_law_1687 rfl rfl ?_
  refine V_iconst (v := 2) (pc := 1688) dL_law_1688 rfl ?_
  refine V_iadd (pc := 1689) dL_law_1689 ?_
  refine V_sld (pc := 1690) dL_law_1690 (hi 2 (by decide)) ?_
  refine V_invV1 (c := 10) (pc := 1691) dL_law_1691 (e_PL_run kd1 e1) iv_La_208 (rmL (Nat.le_of_ble_eq_true rfl) (Nat.le_of_ble_eq_true rfl)) rfl kd1 cf_10 rfl (Nat.le_of_ble_eq_true rfl) rfl ?_
  refine V_aload_n (i := 2) (pc := 1694) dL_law_1694 rfl rfl ?_
  refine V_aload_n (i := 0) (pc := 1695) dL_law_1695 rfl rfl ?_
  refine V_iload_n (i := 3) (pc := 1696) dL_law_1696 rfl rfl ?_
  refine V_iconst (v := 1) (pc := 1697) dL_law_1697 rfl ?_
  refine V_iadd (pc := 1698) dL_law_1698 ?_
  refine V_sld (pc := 1699) dL_law_1699 (hi 1 (by decide)) ?_
  refine V_aload_n (i := 0) (pc := 1700) dL_law_1700 rfl rfl ?_
  refine V_iload_n (i := 3) (pc := 1701) dL_law_1701 rfl rfl ?_
  refine V_iconst (v := 2) (pc := 1702) dL_law_1702 rfl ?_
  refine V_iadd (pc := 1703) dL_law_1703 ?_
  refine V_sld (pc := 1704) dL_law_1704 (hi 2 (by decide)) ?_
  refine V_invV1 (c := 11) (pc := 1705) dL_law_1705 (e_Mo_run kd298 e2) iv_La_211 (rmL (Nat.le_of_ble_eq_true rfl) (Nat.le_of_ble_eq_true rfl)) rfl kd298 cf_11 rfl (Nat.le_of_ble_eq_true rfl) rfl ?_
  exact V_icmp_eq (tgt := 2017) (pc := 1708) dL_law_1708 rfl (fun _ => kk _ R2) (fun q => absurd rfl q)
theorem lwc_47 {g : GE} {b : Nat} {m : Mem} {i : Int32} (hi : ∀ k : Nat, k < 6 → inb (i + nI k) g.2.2.2.2.1) (R : RR m) (kk : ∀ m2, RR m2 → V g Y_law 2017 [some (vr 3000), some (vr 1), some (vr 298), some (vi i)] [] m2 (ZL g b)) : V g Y_law 1713 [some (vr 3000), some (vr 1), some (vr 298), some (vi i)] [] m (ZL g b) := by
  obtain ⟨r, m1, m2, e1, e2, R2⟩ := st_struck m R
  obtain ⟨e1, h1⟩ := rd_o e1
  subst h1
  obtain ⟨e2, h2⟩ := rd_o e2
  subst h2
  have e1 : PL_struck 1 _ = some r := e1
  have e2 : Mo_struck 298 _ = some r := e2
  refine V_aload_n (i := 1) (pc := 1713) dL_law_1713 rfl rfl ?_
  refine V_invV1 (c := 10) (pc := 1714) dL_law_1714 (e_PL_struck kd1 e1) iv_La_212 (rmL (Nat.le_of_ble_eq_true rfl) (Nat.le_of_ble_eq_true rfl)) rfl kd1 cf_10 rfl (Nat.le_of_ble_eq_true rfl) rfl ?_
  refine V_aload_n (i := 2) (pc := 1717) dL_law_1717 rfl rfl ?_
  refine V_invV1 (c := 11) (pc := 1718) dL_law_1718 (e_Mo_struck kd298 e2) iv_La_215 (rmL (Nat.le_of_ble_eq_true rfl) (Nat.le_of_ble_eq_true rfl)) rfl kd298 cf_11 rfl (Nat.le_of_ble_eq_true rfl) rfl ?_
  exact V_icmp_eq (tgt := 2017) (pc := 1721) dL_law_1721 rfl (fun _ => kk _ R2) (fun q => absurd rfl q)
theorem lwc_48 {g : GE} {b : Nat} {m : Mem} {i : Int32} (hi : ∀ k : Nat, k < 6 → inb (i + nI k) g.2.2.2.2.1) (R : RR m) (kk : ∀ m2, RR m2 → V g Y_law 2017 [some (vr 3000), some (vr 1), some (vr 298), some (vi i)] [] m2 (ZL g b)) : V g Y_law 1726 [some (vr 3000), some (vr 1), some (vr 298), some (vi i)] [] m (ZL g b) := by
  obtain ⟨r, m1, m2, e1, e2, R2⟩ := st_springs (g.2.2.2.2.2 (ix (i + 1))) (g.2.2.2.2.2 (ix (i + 2))) (g.2.2.2.2.2 (ix (i + 3))) m R
  have e1 : PL_springs 1 (g.2.2.2.2.2 (ix (i + 1))) (g.2.2.2.2.2 (ix (i + 2))) (g.2.2.2.2.2 (ix (i + 3))) _ = some (r, _) := e1
  have e2 : Mo_springs 298 (g.2.2.2.2.2 (ix (i + 1))) (g.2.2.2.2.2 (ix (i + 2))) (g.2.2.2.2.2 (ix (i + 3))) _ = some (r, _) := e2
  refine V_aload_n (i := 1) (pc := 1726) dL_law_1726 rfl rfl ?_
  refine V_aload_n (i := 0) (pc := 1727) dL_law_1727 rfl rfl ?_
  refine V_iload_n (i := 3) (pc := 1728) dL_law_1728 rfl rfl ?_
  refine V_iconst (v := 1) (pc := 1729) dL_law_1729 rfl ?_
  refine V_iadd (pc := 1730) dL_law_1730 ?_
  refine V_sld (pc := 1731) dL_law_1731 (hi 1 (by decide)) ?_
  refine V_aload_n (i := 0) (pc := 1732) dL_law_1732 rfl rfl ?_
  refine V_iload_n (i := 3) (pc := 1733) dL_law_1733 rfl rfl ?_
  refine V_iconst (v := 2) (pc := 1734) dL_law_1734 rfl ?_
  refine V_iadd (pc := 1735) dL_law_1735 ?_
  refine V_sld (pc := 1736) dL_law_1736 (hi 2 (by decide)) ?_
  refine V_aload_n (i := 0) (pc := 1737) dL_law_1737 rfl rfl ?_
  refine V_iload_n (i := 3) (pc := 1738) dL_law_1738 rfl rfl ?_
  refine V_iconst (v := 3) (pc := 1739) dL_law_1739 rfl ?_
  refine V_iadd (pc := 1740) dL_law_1740 ?_
  refine V_sld (pc := 1741) dL_law_1741 (hi 3 (by decide)) ?_
  refine V_invV1 (c := 10) (pc := 1742) dL_law_1742 (e_PL_springs kd1 e1) iv_La_216 (rmL (Nat.le_of_ble_eq_true rfl) (Nat.le_of_ble_eq_true rfl)) rfl kd1 cf_10 rfl (Nat.le_of_ble_eq_true rfl) rfl ?_
  refine V_aload_n (i := 2) (pc := 1745) dL_law_1745 rfl rfl ?_
  refine V_aload_n (i := 0) (pc := 1746) dL_law_1746 rfl rfl ?_
  refine V_iload_n (i := 3) (pc := 1747) dL_law_1747 rfl rfl ?_
  refine V_iconst (v := 1) (pc := 1748) dL_law_1748 rfl ?_
  refine V_iadd (pc := 1749) dL_law_1749 ?_
  refine V_sld (pc := 1750) dL_law_1750 (hi 1 (by decide)) ?_
  refine V_aload_n (i := 0) (pc := 1751) dL_law_1751 rfl rfl ?_
  refine V_iload_n (i := 3) (pc := 1752) dL_law_1752 rfl rfl ?_
  refine V_iconst (v := 2) (pc := 1753) dL_law_1753 rfl ?_
  refine V_iadd (pc := 1754) dL_law_1754 ?_
  refine V_sld (pc := 1755) dL_law_1755 (hi 2 (by decide)) ?_
  refine V_aload_n (i := 0) (pc := 1756) dL_law_1756 rfl rfl ?_
  refine V_iload_n (i := 3) (pc := 1757) dL_law_1757 rfl rfl ?_
  refine V_iconst (v := 3) (pc := 1758) dL_law_1758 rfl ?_
  refine V_iadd (pc := 1759) dL_law_1759 ?_
  refine V_sld (pc := 1760) dL_law_1760 (hi 3 (by decide)) ?_
  refine V_invV1 (c := 11) (pc := 1761) dL_law_1761 (e_Mo_springs kd298 e2) iv_La_219 (rmL (Nat.le_of_ble_eq_true rfl) (Nat.le_of_ble_eq_true rfl)) rfl kd298 cf_11 rfl (Nat.le_of_ble_eq_true rfl) rfl ?_
  exact V_icmp_eq (tgt := 2017) (pc := 1764) dL_law_1764 rfl (fun _ => kk _ R2) (fun q => absurd rfl q)
theorem lwc_49 {g : GE} {b : Nat} {m : Mem} {i : Int32} (hi : ∀ k : Nat, k < 6 → inb (i + nI k) g.2.2.2.2.1) (R : RR m) (kk : ∀ m2, RR m2 → V g Y_law 2017 [some (vr 3000), some (vr 1), some (vr 298), some (vi i)] [] m2 (ZL g b)) : V g Y_law 1769 [some (vr 3000), some (vr 1), some (vr 298), some (vi i)] [] m (ZL g b) := by
  obtain ⟨r, m1, m2, e1, e2, R2⟩ := st_count (g.2.2.2.2.2 (ix (i + 1))) m R
  obtain ⟨e1, h1⟩ := rd_o e1
  subst h1
  obtain ⟨e2, h2⟩ := rd_o e2
  subst h2
  have e1 : PL_count 1 (g.2.2.2.2.2 (ix (i + 1))) _ = some r := e1
  have e2 : Mo_count 298 (g.2.2.2.2.2 (ix (i + 1))) _ = some r := e2
  refine V_aload_n (i := 1) (pc := 1769) dL_law_1769 rfl rfl ?_
  refine V_aload_n (i := 0) (pc := 1770) dL_law_1770 rfl rfl ?_
  refine V_iload_n (i := 3) (pc := 1771) dL_law_1771 rfl rfl ?_
  refine V_iconst (v := 1) (pc := 1772) dL_law_1772 rfl ?_
  refine V_iadd (pc := 1773) dL_law_1773 ?_
  refine V_sld (pc := 1774) dL_law_1774 (hi 1 (by decide)) ?_
  refine V_invV1 (c := 10) (pc := 1775) dL_law_1775 (e_PL_count kd1 e1) iv_La_220 (rmL (Nat.le_of_ble_eq_true rfl) (Nat.le_of_ble_eq_true rfl)) rfl kd1 cf_10 rfl (Nat.le_of_ble_eq_true rfl) rfl ?_
  refine V_aload_n (i := 2) (pc := 1778) dL_law_1778 rfl rfl ?_
  refine V_aload_n (i := 0) (pc := 1779) dL_law_1779 rfl rfl ?_
  refine V_iload_n (i := 3) (pc := 1780) dL_law_1780 rfl rfl ?_
  refine V_iconst (v := 1) (pc := 1781) dL_law_1781 rfl ?_
  refine V_iadd (pc := 1782) dL_law_1782 ?_
  refine V_sld (pc := 1783) dL_law_1783 (hi 1 (by decide)) ?_
  refine V_invV1 (c := 11) (pc := 1784) dL_law_1784 (e_Mo_count kd298 e2) iv_La_223 (rmL (Nat.le_of_ble_eq_true rfl) (Nat.le_of_ble_eq_true rfl)) rfl kd298 cf_11 rfl (Nat.le_of_ble_eq_true rfl) rfl ?_
  exact V_icmp_eq (tgt := 2017) (pc := 1787) dL_law_1787 rfl (fun _ => kk _ R2) (fun q => absurd rfl q)
theorem lwc_50 {g : GE} {b : Nat} {m : Mem} {i : Int32} (hi : ∀ k : Nat, k < 6 → inb (i + nI k) g.2.2.2.2.1) (R : RR m) (kk : ∀ m2, RR m2 → V g Y_law 2017 [some (vr 3000), some (vr 1), some (vr 298), some (vi i)] [] m2 (ZL g b)) : V g Y_law 1792 [some (vr 3000), some (vr 1), some (vr 298), some (vi i)] [] m (ZL g b) := by
  obtain ⟨r, m1, m2, e1, e2, R2⟩ := st_keep (g.2.2.2.2.2 (ix (i + 1))) m R
  have e1 : PL_keep 1 (g.2.2.2.2.2 (ix (i + 1))) _ = some (r, _) := e1
  have e2 : Mo_keep 298 (g.2.2.2.2.2 (ix (i + 1))) _ = some (r, _) := e2
  refine V_aload_n (i := 1) (pc := 1792) dL_law_1792 rfl rfl ?_
  refine V_aload_n (i := 0) (pc := 1793) dL_law_1793 rfl rfl ?_
  refine V_iload_n (i := 3) (pc := 1794) dL_law_1794 rfl rfl ?_
  refine V_iconst (v := 1) (pc := 1795) dL_law_1795 rfl ?_
  refine V_iadd (pc := 1796) dL_law_1796 ?_
  refine V_sld (pc := 1797) dL_law_1797 (hi 1 (by decide)) ?_
  refine V_invV1 (c := 10) (pc := 1798) dL_law_1798 (e_PL_keep kd1 e1) iv_La_224 (rmL (Nat.le_of_ble_eq_true rfl) (Nat.le_of_ble_eq_true rfl)) rfl kd1 cf_10 rfl (Nat.le_of_ble_eq_true rfl) rfl ?_
  refine V_aload_n (i := 2) (pc := 1801) dL_law_1801 rfl rfl ?_
  refine V_aload_n (i := 0) (pc := 1802) dL_law_1802 rfl rfl ?_
  refine V_iload_n (i := 3) (pc := 1803) dL_law_1803 rfl rfl ?_
  refine V_iconst (v := 1) (pc := 1804) dL_law_1804 rfl ?_
  refine V_iadd (pc := 1805) dL_law_1805 ?_
  refine V_sld (pc := 1806) dL_law_1806 (hi 1 (by decide)) ?_
  refine V_invV1 (c := 11) (pc := 1807) dL_law_1807 (e_Mo_keep kd298 e2) iv_La_227 (rmL (Nat.le_of_ble_eq_true rfl) (Nat.le_of_ble_eq_true rfl)) rfl kd298 cf_11 rfl (Nat.le_of_ble_eq_true rfl) rfl ?_
  exact V_icmp_eq (tgt := 2017) (pc := 1810) dL_law_1810 rfl (fun _ => kk _ R2) (fun q => absurd rfl q)
theorem lwc_51 {g : GE} {b : Nat} {m : Mem} {i : Int32} (hi : ∀ k : Nat, k < 6 → inb (i + nI k) g.2.2.2.2.1) (R : RR m) (kk : ∀ m2, RR m2 → V g Y_law 2017 [some (vr 3000), some (vr 1), some (vr 298), some (vi i)] [] m2 (ZL g b)) : V g Y_law 1815 [some (vr 3000), some (vr 1), some (vr 298), some (vi i)] [] m (ZL g b) := by
  obtain ⟨r, m1, m2, e1, e2, R2⟩ := st_back (g.2.2.2.2.2 (ix (i + 1))) m R
  have e1 : PL_back 1 (g.2.2.2.2.2 (ix (i + 1))) _ = some (r, _) := e1
  have e2 : Mo_back 298 (g.2.2.2.2.2 (ix (i + 1))) _ = some (r, _) := e2
  refine V_aload_n (i := 1) (pc := 1815) dL_law_1815 rfl rfl ?_
  refine V_aload_n (i := 0) (pc := 1816) dL_law_1816 rfl rfl ?_
  refine V_iload_n (i := 3) (pc := 1817) dL_law_1817 rfl rfl ?_
  refine V_iconst (v := 1) (pc := 1818) dL_law_1818 rfl ?_
  refine V_iadd (pc := 1819) dL_law_1819 ?_
  refine V_sld (pc := 1820) dL_law_1820 (hi 1 (by decide)) ?_
  refine V_invV1 (c := 10) (pc := 1821) dL_law_1821 (e_PL_back kd1 e1) iv_La_228 (rmL (Nat.le_of_ble_eq_true rfl) (Nat.le_of_ble_eq_true rfl)) rfl kd1 cf_10 rfl (Nat.le_of_ble_eq_true rfl) rfl ?_
  refine V_aload_n (i := 2) (pc := 1824) dL_law_1824 rfl rfl ?_
  refine V_aload_n (i := 0) (pc := 1825) dL_law_1825 rfl rfl ?_
  refine V_iload_n (i := 3) (pc := 1826) dL_law_1826 rfl rfl ?_
  refine V_iconst (v := 1) (pc := 1827) dL_law_1827 rfl ?_
  refine V_iadd (pc := 1828) dL_law_1828 ?_
  refine V_sld (pc := 1829) dL_law_1829 (hi 1 (by decide)) ?_
  refine V_invV1 (c := 11) (pc := 1830) dL_law_1830 (e_Mo_back kd298 e2) iv_La_231 (rmL (Nat.le_of_ble_eq_true rfl) (Nat.le_of_ble_eq_true rfl)) rfl kd298 cf_11 rfl (Nat.le_of_ble_eq_true rfl) rfl ?_
  exact V_icmp_eq (tgt := 2017) (pc := 1833) dL_law_1833 rfl (fun _ => kk _ R2) (fun q => absurd rfl q)
theorem lwc_52 {g : GE} {b : Nat} {m : Mem} {i : Int32} (hi : ∀ k : Nat, k < 6 → inb (i + nI k) g.2.2.2.2.1) (R : RR m) (kk : ∀ m2, RR m2 → V g Y_law 2017 [some (vr 3000), some (vr 1), some (vr 298), some (vi i)] [] m2 (ZL g b)) : V g Y_law 1838 [some (vr 3000), some (vr 1), some (vr 298), some (vi i)] [] m (ZL g b) := by
  obtain ⟨r, m1, m2, e1, e2, R2⟩ := st_row (g.2.2.2.2.2 (ix (i + 1))) (g.2.2.2.2.2 (ix (i + 2))) (g.2.2.2.2.2 (ix (i + 3))) m R
  have e1 : PL_row 1 (g.2.2.2.2.2 (ix (i + 1))) (g.2.2.2.2.2 (ix (i + 2))) (g.2.2.2.2.2 (ix (i + 3))) _ = some (r, _) := e1
  have e2 : Mo_row 298 (g.2.2.2.2.2 (ix (i + 1))) (g.2.2.2.2.2 (ix (i + 2))) (g.2.2.2.2.2 (ix (i + 3))) _ = some (r, _) := e2
  refine V_aload_n (i := 1) (pc := 1838) dL_law_1838 rfl rfl ?_
  refine V_aload_n (i := 0) (pc := 1839) dL_law_1839 rfl rfl ?_
  refine V_iload_n (i := 3) (pc := 1840) dL_law_1840 rfl rfl ?_
  refine V_iconst (v := 1) (pc := 1841) dL_law_1841 rfl ?_
  refine V_iadd (pc := 1842) dL_law_1842 ?_
  refine V_sld (pc := 1843) dL_law_1843 (hi 1 (by decide)) ?_
  refine V_aload_n (i := 0) (pc := 1844) dL_law_1844 rfl rfl ?_
  refine V_iload_n (i := 3) (pc := 1845) dL_law_1845 rfl rfl ?_
  refine V_iconst (v := 2) (pc := 1846) dL_law_1846 rfl ?_
  refine V_iadd (pc := 1847) dL_law_1847 ?_
  refine V_sld (pc := 1848) dL_law_1848 (hi 2 (by decide)) ?_
  refine V_aload_n (i := 0) (pc := 1849) dL_law_1849 rfl rfl ?_
  refine V_iload_n (i := 3) (pc := 1850) dL_law_1850 rfl rfl ?_
  refine V_iconst (v := 3) (pc := 1851) dL_law_1851 rfl ?_
  refine V_iadd (pc := 1852) dL_law_1852 ?_
  refine V_sld (pc := 1853) dL_law_1853 (hi 3 (by decide)) ?_
  refine V_invV1 (c := 10) (pc := 1854) dL_law_1854 (e_PL_row kd1 e1) iv_La_232 (rmL (Nat.le_of_ble_eq_true rfl) (Nat.le_of_ble_eq_true rfl)) rfl kd1 cf_10 rfl (Nat.le_of_ble_eq_true rfl) rfl ?_
  refine V_aload_n (i := 2) (pc := 1857) dL_law_1857 rfl rfl ?_
  refine V_aload_n (i := 0) (pc := 1858) dL_law_1858 rfl rfl ?_
  refine V_iload_n (i := 3) (pc := 1859) dL_law_1859 rfl rfl ?_
  refine V_iconst (v := 1) (pc := 1860) dL_law_1860 rfl ?_
  refine V_iadd (pc := 1861) dL_law_1861 ?_
  refine V_sld (pc := 1862) dL_law_1862 (hi 1 (by decide)) ?_
  refine V_aload_n (i := 0) (pc := 1863) dL_law_1863 rfl rfl ?_
  refine V_iload_n (i := 3) (pc := 1864) dL_law_1864 rfl rfl ?_
  refine V_iconst (v := 2) (pc := 1865) dL_law_1865 rfl ?_
  refine V_iadd (pc := 1866) dL_law_1866 ?_
  refine V_sld (pc := 1867) dL_law_1867 (hi 2 (by decide)) ?_
  refine V_aload_n (i := 0) (pc := 1868) dL_law_1868 rfl rfl ?_
  refine V_iload_n (i := 3) (pc := 1869) dL_law_1869 rfl rfl ?_
  refine V_iconst (v := 3) (pc := 1870) dL_law_1870 rfl ?_
  refine V_iadd (pc := 1871) dL_law_1871 ?_
  refine V_sld (pc := 1872) dL_law_1872 (hi 3 (by decide)) ?_
  refine V_invV1 (c := 11) (pc := 1873) dL_law_1873 (e_Mo_row kd298 e2) iv_La_235 (rmL (Nat.le_of_ble_eq_true rfl) (Nat.le_of_ble_eq_true rfl)) rfl kd298 cf_11 rfl (Nat.le_of_ble_eq_true rfl) rfl ?_
  exact V_icmp_eq (tgt := 2017) (pc := 1876) dL_law_1876 rfl (fun _ => kk _ R2) (fun q => absurd rfl q)
theorem lwc_53 {g : GE} {b : Nat} {m : Mem} {i : Int32} (hi : ∀ k : Nat, k < 6 → inb (i + nI k) g.2.2.2.2.1) (R : RR m) (kk : ∀ m2, RR m2 → V g Y_law 2017 [some (vr 3000), some (vr 1), some (vr 298), some (vi i)] [] m2 (ZL g b)) : V g Y_law 1881 [some (vr 3000), some (vr 1), some (vr 298), some (vi i)] [] m (ZL g b) := by
  obtain ⟨r, m1, m2, e1, e2, R2⟩ := st_write (g.2.2.2.2.2 (ix (i + 1))) (g.2.2.2.2.2 (ix (i + 2))) (((g.2.2.2.2.2 (ix (i + 3))).toInt64 <<< ((32 : Int32).toInt64 &&& 63)) ||| ((g.2.2.2.2.2 (ix (i + 4))).toInt64 &&& 4294967295)) m R
  have e1 : PL_write 1 (g.2.2.2.2.2 (ix (i + 1))) (g.2.2.2.2.2 (ix (i + 2))) (((g.2.2.2.2.2 (ix (i + 3))).toInt64 <<< ((32 : Int32).toInt64 &&& 63)) ||| ((g.2.2.2.2.2 (ix (i + 4))).toInt64 &&& 4294967295)) _ = some (r, _) := e1
  have e2 : Mo_write 298 (g.2.2.2.2.2 (ix (i + 1))) (g.2.2.2.2.2 (ix (i + 2))) (((g.2.2.2.2.2 (ix (i + 3))).toInt64 <<< ((32 : Int32).toInt64 &&& 63)) ||| ((g.2.2.2.2.2 (ix (i + 4))).toInt64 &&& 4294967295)) _ = some (r, _) := e2
  refine V_aload_n (i := 1) (pc := 1881) dL_law_1881 rfl rfl ?_
  refine V_aload_n (i := 0) (pc := 1882) dL_law_1882 rfl rfl ?_
  refine V_iload_n (i := 3) (pc := 1883) dL_law_1883 rfl rfl ?_
  refine V_iconst (v := 1) (pc := 1884) dL_law_1884 rfl ?_
  refine V_iadd (pc := 1885) dL_law_1885 ?_
  refine V_sld (pc := 1886) dL_law_1886 (hi 1 (by decide)) ?_
  refine V_aload_n (i := 0) (pc := 1887) dL_law_1887 rfl rfl ?_
  refine V_iload_n (i := 3) (pc := 1888) dL_law_1888 rfl rfl ?_
  refine V_iconst (v := 2) (pc := 1889) dL_law_1889 rfl ?_
  refine V_iadd (pc := 1890) dL_law_1890 ?_
  refine V_sld (pc := 1891) dL_law_1891 (hi 2 (by decide)) ?_
  refine V_aload_n (i := 0) (pc := 1892) dL_law_1892 rfl rfl ?_
  refine V_iload_n (i := 3) (pc := 1893) dL_law_1893 rfl rfl ?_
  refine V_iconst (v := 3) (pc := 1894) dL_law_1894 rfl ?_
  refine V_iadd (pc := 1895) dL_law_1895 ?_
  refine V_sld (pc := 1896) dL_law_1896 (hi 3 (by decide)) ?_
  refine V_i2l (pc := 1897) dL_law_1897 ?_
  refine V_bipush (v := 32) (pc := 1898) dL_law_1898 rfl ?_
  refine V_lshl (pc := 1900) dL_law_1900 ?_
  refine V_aload_n (i := 0) (pc := 1901) dL_law_1901 rfl rfl ?_
  refine V_iload_n (i := 3) (pc := 1902) dL_law_1902 rfl rfl ?_
  refine V_iconst (v := 4) (pc := 1903) dL_law_1903 rfl ?_
  refine V_iadd (pc := 1904) dL_law_1904 ?_
  refine V_sld (pc := 1905) dL_law_1905 (hi 4 (by decide)) ?_
  refine V_i2l (pc := 1906) dL_law_1906 ?_
  refine V_ldc2 (v := 4294967295) (pc := 1907) dL_law_1907 con_La_236 ?_
  refine V_land (pc := 1910) dL_law_1910 ?_
  refine V_lor (pc := 1911) dL_law_1911 ?_
  refine V_invV1 (c := 10) (pc := 1912) dL_law_1912 (e_PL_write kd1 e1) iv_La_238 (rmL (Nat.le_of_ble_eq_true rfl) (Nat.le_of_ble_eq_true rfl)) rfl kd1 cf_10 rfl (Nat.le_of_ble_eq_true rfl) rfl ?_
  refine V_aload_n (i := 2) (pc := 1915) dL_law_1915 rfl rfl ?_
  refine V_aload_n (i := 0) (pc := 1916) dL_law_1916 rfl rfl ?_
  refine V_iload_n (i := 3) (pc := 1917) dL_law_1917 rfl rfl ?_
  refine V_iconst (v := 1) (pc := 1918) dL_law_1918 rfl ?_
  refine V_iadd (pc := 1919) dL_law_1919 ?_
  refine V_sld (pc := 1920) dL_law_1920 (hi 1 (by decide)) ?_
  refine V_aload_n (i := 0) (pc := 1921) dL_law_1921 rfl rfl ?_
  refine V_iload_n (i := 3) (pc := 1922) dL_law_1922 rfl rfl ?_
  refine V_iconst (v := 2) (pc := 1923) dL_law_1923 rfl ?_
  refine V_iadd (pc := 1924) dL_law_1924 ?_
  refine V_sld (pc := 1925) dL_law_1925 (hi 2 (by decide)) ?_
  refine V_aload_n (i := 0) (pc := 1926) dL_law_1926 rfl rfl ?_
  refine V_iload_n (i := 3) (pc := 1927) dL_law_1927 rfl rfl ?_
  refine V_iconst (v := 3) (pc := 1928) dL_law_1928 rfl ?_
  refine V_iadd (pc := 1929) dL_law_1929 ?_
  refine V_sld (pc := 1930) dL_law_1930 (hi 3 (by decide)) ?_
  refine V_i2l (pc := 1931) dL_law_1931 ?_
  refine V_bipush (v := 32) (pc := 1932) dL_law_1932 rfl ?_
  refine V_lshl (pc := 1934) dL_law_1934 ?_
  refine V_aload_n (i := 0) (pc := 1935) dL_law_1935 rfl rfl ?_
  refine V_iload_n (i := 3) (pc := 1936) dL_law_1936 rfl rfl ?_
  refine V_iconst (v := 4) (pc := 1937) dL_law_1937 rfl ?_
  refine V_iadd (pc := 1938) dL_law_1938 ?_
  refine V_sld (pc := 1939) dL_law_1939 (hi 4 (by decide)) ?_
  refine V_i2l (pc := 1940) dL_law_1940 ?_
  refine V_ldc2 (v := 4294967295) (pc := 1941) dL_law_1941 con_La_236 ?_
  refine V_land (pc := 1944) dL_law_1944 ?_
  refine V_lor (pc := 1945) dL_law_1945 ?_
  refine V_invV1 (c := 11) (pc := 1946) dL_law_1946 (e_Mo_write kd298 e2) iv_La_242 (rmL (Nat.le_of_ble_eq_true rfl) (Nat.le_of_ble_eq_true rfl)) rfl kd298 cf_11 rfl (Nat.le_of_ble_eq_true rfl) rfl ?_
  exact V_icmp_eq (tgt := 2017) (pc := 1949) dL_law_1949 rfl (fun _ => kk _ R2) (fun q => absurd rfl q)
theorem lwc_54 {g : GE} {b : Nat} {m : Mem} {i : Int32} (hi : ∀ k : Nat, k < 6 → inb (i + nI k) g.2.2.2.2.1) (R : RR m) (kk : ∀ m2, RR m2 → V g Y_law 2017 [some (vr 3000), some (vr 1), some (vr 298), some (vi i)] [] m2 (ZL g b)) : V g Y_law 1954 [some (vr 3000), some (vr 1), some (vr 298), some (vi i)] [] m (ZL g b) := by
  obtain ⟨r, m1, m2, e1, e2, R2⟩ := st_paste (g.2.2.2.2.2 (ix (i + 1))) (g.2.2.2.2.2 (ix (i + 2))) (g.2.2.2.2.2 (ix (i + 3))) (g.2.2.2.2.2 (ix (i + 4))) (g.2.2.2.2.2 (ix (i + 5))) m R
  have e1 : PL_paste 1 (g.2.2.2.2.2 (ix (i + 1))) (g.2.2.2.2.2 (ix (i + 2))) (g.2.2.2.2.2 (ix (i + 3))) (g.2.2.2.2.2 (ix (i + 4))) (g.2.2.2.2.2 (ix (i + 5))) _ = some (r, _) := e1
  have e2 : Mo_paste 298 (g.2.2.2.2.2 (ix (i + 1))) (g.2.2.2.2.2 (ix (i + 2))) (g.2.2.2.2.2 (ix (i + 3))) (g.2.2.2.2.2 (ix (i + 4))) (g.2.2.2.2.2 (ix (i + 5))) _ = some (r, _) := e2
  refine V_aload_n (i := 1) (pc := 1954) dL_law_1954 rfl rfl ?_
  refine V_aload_n (i := 0) (pc := 1955) dL_law_1955 rfl rfl ?_
  refine V_iload_n (i := 3) (pc := 1956) dL_law_1956 rfl rfl ?_
  refine V_iconst (v := 1) (pc := 1957) dL_law_1957 rfl ?_
  refine V_iadd (pc := 1958) dL_law_1958 ?_
  refine V_sld (pc := 1959) dL_law_1959 (hi 1 (by decide)) ?_
  refine V_aload_n (i := 0) (pc := 1960) dL_law_1960 rfl rfl ?_
  refine V_iload_n (i := 3) (pc := 1961) dL_law_1961 rfl rfl ?_
  refine V_iconst (v := 2) (pc := 1962) dL_law_1962 rfl ?_
  refine V_iadd (pc := 1963) dL_law_1963 ?_
  refine V_sld (pc := 1964) dL_law_1964 (hi 2 (by decide)) ?_
  refine V_aload_n (i := 0) (pc := 1965) dL_law_1965 rfl rfl ?_
  refine V_iload_n (i := 3) (pc := 1966) dL_law_1966 rfl rfl ?_
  refine V_iconst (v := 3) (pc := 1967) dL_law_1967 rfl ?_
  refine V_iadd (pc := 1968) dL_law_1968 ?_
  refine V_sld (pc := 1969) dL_law_1969 (hi 3 (by decide)) ?_
  refine V_aload_n (i := 0) (pc := 1970) dL_law_1970 rfl rfl ?_
  refine V_iload_n (i := 3) (pc := 1971) dL_law_1971 rfl rfl ?_
  refine V_iconst (v := 4) (pc := 1972) dL_law_1972 rfl ?_
  refine V_iadd (pc := 1973) dL_law_1973 ?_
  refine V_sld (pc := 1974) dL_law_1974 (hi 4 (by decide)) ?_
  refine V_aload_n (i := 0) (pc := 1975) dL_law_1975 rfl rfl ?_
  refine V_iload_n (i := 3) (pc := 1976) dL_law_1976 rfl rfl ?_
  refine V_iconst (v := 5) (pc := 1977) dL_law_1977 rfl ?_
  refine V_iadd (pc := 1978) dL_law_1978 ?_
  refine V_sld (pc := 1979) dL_law_1979 (hi 5 (by decide)) ?_
  refine V_invV1 (c := 10) (pc := 1980) dL_law_1980 (e_PL_paste kd1 e1) iv_La_243 (rmL (Nat.le_of_ble_eq_true rfl) (Nat.le_of_ble_eq_true rfl)) rfl kd1 cf_10 rfl (Nat.le_of_ble_eq_true rfl) rfl ?_
  refine V_aload_n (i := 2) (pc := 1983) dL_law_1983 rfl rfl ?_
  refine V_aload_n (i := 0) (pc := 1984) dL_law_1984 rfl rfl ?_
  refine V_iload_n (i := 3) (pc := 1985) dL_law_1985 rfl rfl ?_
  refine V_iconst (v := 1) (pc := 1986) dL_law_1986 rfl ?_
  refine V_iadd (pc := 1987) dL_law_1987 ?_
  refine V_sld (pc := 1988) dL_law_1988 (hi 1 (by decide)) ?_
  refine V_aload_n (i := 0) (pc := 1989) dL_law_1989 rfl rfl ?_
  refine V_iload_n (i := 3) (pc := 1990) dL_law_1990 rfl rfl ?_
  refine V_iconst (v := 2) (pc := 1991) dL_law_1991 rfl ?_
  refine V_iadd (pc := 1992) dL_law_1992 ?_
  refine V_sld (pc := 1993) dL_law_1993 (hi 2 (by decide)) ?_
  refine V_aload_n (i := 0) (pc := 1994) dL_law_1994 rfl rfl ?_
  refine V_iload_n (i := 3) (pc := 1995) dL_law_1995 rfl rfl ?_
  refine V_iconst (v := 3) (pc := 1996) dL_law_1996 rfl ?_
  refine V_iadd (pc := 1997) dL_law_1997 ?_
  refine V_sld (pc := 1998) dL_law_1998 (hi 3 (by decide)) ?_
  refine V_aload_n (i := 0) (pc := 1999) dL_law_1999 rfl rfl ?_
  refine V_iload_n (i := 3) (pc := 2000) dL_law_2000 rfl rfl ?_
  refine V_iconst (v := 4) (pc := 2001) dL_law_2001 rfl ?_
  refine V_iadd (pc := 2002) dL_law_2002 ?_
  refine V_sld (pc := 2003) dL_law_2003 (hi 4 (by decide)) ?_
  refine V_aload_n (i := 0) (pc := 2004) dL_law_2004 rfl rfl ?_
  refine V_iload_n (i := 3) (pc := 2005) dL_law_2005 rfl rfl ?_
  refine V_iconst (v := 5) (pc := 2006) dL_law_2006 rfl ?_
  refine V_iadd (pc := 2007) dL_law_2007 ?_
  refine V_sld (pc := 2008) dL_law_2008 (hi 5 (by decide)) ?_
  refine V_invV1 (c := 11) (pc := 2009) dL_law_2009 (e_Mo_paste kd298 e2) iv_La_246 (rmL (Nat.le_of_ble_eq_true rfl) (Nat.le_of_ble_eq_true rfl)) rfl kd298 cf_11 rfl (Nat.le_of_ble_eq_true rfl) rfl ?_
  exact V_icmp_eq (tgt := 2017) (pc := 2012) dL_law_2012 rfl (fun _ => kk _ R2) (fun q => absurd rfl q)
def lwT : List Nat := [268, 331, 354, 367, 390, 433, 476, 529, 552, 585, 608, 631, 674, 697, 721, 771, 794, 827, 851, 874, 897, 920, 944, 957, 980, 994, 1007, 1030, 1054, 1077, 1121, 1164, 1177, 1220, 1263, 1296, 1339, 1392, 1425, 1478, 1511, 1544, 1578, 1611, 1634, 1657, 1680, 1713, 1726, 1769, 1792, 1815, 1838, 1881, 1954]
theorem lwc {g : GE} {b : Nat} {m : Mem} {i : Int32} (hi : ∀ k : Nat, k < 6 → inb (i + nI k) g.2.2.2.2.1) (R : RR m) (kk : ∀ m2, RR m2 → V g Y_law 2017 [some (vr 3000), some (vr 1), some (vr 298), some (vi i)] [] m2 (ZL g b)) : ∀ k, k < 55 → V g Y_law (lwT.getD k 0) [some (vr 3000), some (vr 1), some (vr 298), some (vi i)] [] m (ZL g b) := by
  intro k hk
  match k, hk with
  | 0, _ => exact lwc_0 hi R kk
  | 1, _ => exact lwc_1 hi R kk
  | 2, _ => exact lwc_2 hi R kk
  | 3, _ => exact lwc_3 hi R kk
  | 4, _ => exact lwc_4 hi R kk
  | 5, _ => exact lwc_5 hi R kk
  | 6, _ => exact lwc_6 hi R kk
  | 7, _ => exact lwc_7 hi R kk
  | 8, _ => exact lwc_8 hi R kk
  | 9, _ => exact lwc_9 hi R kk
  | 10, _ => exact lwc_10 hi R kk
  | 11, _ => exact lwc_11 hi R kk
  | 12, _ => exact lwc_12 hi R kk
  | 13, _ => exact lwc_13 hi R kk
  | 14, _ => exact lwc_14 hi R kk
  | 15, _ => exact lwc_15 hi R kk
  | 16, _ => exact lwc_16 hi R kk
  | 17, _ => exact lwc_17 hi R kk
  | 18, _ => exact lwc_18 hi R kk
  | 19, _ => exact lwc_19 hi R kk
  | 20, _ => exact lwc_20 hi R kk
  | 21, _ => exact lwc_21 hi R kk
  | 22, _ => exact lwc_22 hi R kk
  | 23, _ => exact lwc_23 hi R kk
  | 24, _ => exact lwc_24 hi R kk
  | 25, _ => exact lwc_25 hi R kk
  | 26, _ => exact lwc_26 hi R kk
  | 27, _ => exact lwc_27 hi R kk
  | 28, _ => exact lwc_28 hi R kk
  | 29, _ => exact lwc_29 hi R kk
  | 30, _ => exact lwc_30 hi R kk
  | 31, _ => exact lwc_31 hi R kk
  | 32, _ => exact lwc_32 hi R kk
  | 33, _ => exact lwc_33 hi R kk
  | 34, _ => exact lwc_34 hi R kk
  | 35, _ => exact lwc_35 hi R kk
  | 36, _ => exact lwc_36 hi R kk
  | 37, _ => exact lwc_37 hi R kk
  | 38, _ => exact lwc_38 hi R kk
  | 39, _ => exact lwc_39 hi R kk
  | 40, _ => exact lwc_40 hi R kk
  | 41, _ => exact lwc_41 hi R kk
  | 42, _ => exact lwc_42 hi R kk
  | 43, _ => exact lwc_43 hi R kk
  | 44, _ => exact lwc_44 hi R kk
  | 45, _ => exact lwc_45 hi R kk
  | 46, _ => exact lwc_46 hi R kk
  | 47, _ => exact lwc_47 hi R kk
  | 48, _ => exact lwc_48 hi R kk
  | 49, _ => exact lwc_49 hi R kk
  | 50, _ => exact lwc_50 hi R kk
  | 51, _ => exact lwc_51 hi R kk
  | 52, _ => exact lwc_52 hi R kk
  | 53, _ => exact lwc_53 hi R kk
  | 54, _ => exact lwc_54 hi R kk
  | k + 55, hk => exact absurd hk (by omega)
