section LWS
variable {nm : String} {D : Dat} {nT i a1 a2 kc ks : Nat} {nd nd2 : Nat → Option Nat} {c : Nat → pE} {ad ad2 : Nat → Nat} {fi : Nat → Int32} {fa : Nat → Nat → Int32} {Q : Option Value → Mem → Prop}
theorem LW_child (hS : LwS nT nd nd2 ad ad2 c fi fa a1 a2) (hi : i + 6 ≤ sN D) (hN : sN D ≤ 384) (hk : LwK D nm i a1 a2 nd2 ad2 kc ks Q) : V D 140 (IL nm) 228 (lwL D a1 a2 i) [] (mun (MM nd c) (MR nd2 ad2 fi fa)) (kc + 3) (ks + 188) Q := by
  obtain ⟨hL, hR, h, ha, rfl, rfl⟩ := hS
  obtain ⟨r, e, fj, fb, hx, hy, hI⟩ := L_child hL hR h (sX D (i + 1))
  have s1 : sld D (nI i + 1) = some (sX D (i + 1)) := sld_at (k := 1) (by omega) hN
  refine V_kc (kc2 := kc) (ks2 := ks) (by omega) (by omega) ?_
  refine V_aload_n (pc2 := 229) dL_law_228 1 rfl rfl ?_
  refine V_aload_n (pc2 := 230) dL_law_229 0 rfl rfl ?_
  refine V_iload_n (pc2 := 231) dL_law_230 3 rfl rfl ?_
  refine V_iconst (v := 1) (pc2 := 232) dL_law_231 (by decide) ?_
  refine V_iadd (pc2 := 233) dL_law_232 ?_
  refine V_sld (pc2 := 234) s1 dL_law_233 ?_
  refine V_c7 (pc2 := 237) [.int (sX D (i + 1))] (st := []) (tX7_child hx) ha (cls_at hL h) dL_law_234 wV_ParcelRingLaw_13 (by decide) rfl (Nat.le_of_ble_eq_true rfl) (fun ha1 => ?_)
  refine V_aload_n (pc2 := 238) dL_law_237 2 rfl rfl ?_
  refine V_aload_n (pc2 := 239) dL_law_238 0 rfl rfl ?_
  refine V_iload_n (pc2 := 240) dL_law_239 3 rfl rfl ?_
  refine V_iconst (v := 1) (pc2 := 241) dL_law_240 (by decide) ?_
  refine V_iadd (pc2 := 242) dL_law_241 ?_
  refine V_sld (pc2 := 243) s1 dL_law_242 ?_
  refine V_c8 (pc2 := 246) [.int (sX D (i + 1))] (st := [.int r]) (tX8_child hy) ha1 (ref_at hR) dL_law_243 wV_ParcelRingLaw_17 (by decide) rfl (Nat.le_of_ble_eq_true rfl) (fun ha2 => ?_)
  refine V_icmp_eq (pc2 := 249) (tgt := 1563) dL_law_246 (fun _ => ?_) (fun z => absurd rfl z)
  exact hk nT nd ad e fj fb ⟨hL, hR, hI, ha2, rfl, rfl⟩
theorem LW_childTold (hS : LwS nT nd nd2 ad ad2 c fi fa a1 a2) (hi : i + 6 ≤ sN D) (hN : sN D ≤ 384) (hk : LwK D nm i a1 a2 nd2 ad2 kc ks Q) : V D 140 (IL nm) 251 (lwL D a1 a2 i) [] (mun (MM nd c) (MR nd2 ad2 fi fa)) (kc + 3) (ks + 188) Q := by
  obtain ⟨hL, hR, h, ha, rfl, rfl⟩ := hS
  obtain ⟨r, e, fj, fb, hx, hy, hI⟩ := L_childTold hL hR h (sX D (i + 1)) (sX D (i + 2))
  have s1 : sld D (nI i + 1) = some (sX D (i + 1)) := sld_at (k := 1) (by omega) hN
  have s2 : sld D (nI i + 2) = some (sX D (i + 2)) := sld_at (k := 2) (by omega) hN
  refine V_kc (kc2 := kc) (ks2 := ks) (by omega) (by omega) ?_
  refine V_aload_n (pc2 := 252) dL_law_251 1 rfl rfl ?_
  refine V_aload_n (pc2 := 253) dL_law_252 0 rfl rfl ?_
  refine V_iload_n (pc2 := 254) dL_law_253 3 rfl rfl ?_
  refine V_iconst (v := 1) (pc2 := 255) dL_law_254 (by decide) ?_
  refine V_iadd (pc2 := 256) dL_law_255 ?_
  refine V_sld (pc2 := 257) s1 dL_law_256 ?_
  refine V_aload_n (pc2 := 258) dL_law_257 0 rfl rfl ?_
  refine V_iload_n (pc2 := 259) dL_law_258 3 rfl rfl ?_
  refine V_iconst (v := 2) (pc2 := 260) dL_law_259 (by decide) ?_
  refine V_iadd (pc2 := 261) dL_law_260 ?_
  refine V_sld (pc2 := 262) s2 dL_law_261 ?_
  refine V_c7 (pc2 := 265) [.int (sX D (i + 1)), .int (sX D (i + 2))] (st := []) (tX7_childTold hx) ha (cls_at hL h) dL_law_262 wV_ParcelRingLaw_18 (by decide) rfl (Nat.le_of_ble_eq_true rfl) (fun ha1 => ?_)
  refine V_aload_n (pc2 := 266) dL_law_265 2 rfl rfl ?_
  refine V_aload_n (pc2 := 267) dL_law_266 0 rfl rfl ?_
  refine V_iload_n (pc2 := 268) dL_law_267 3 rfl rfl ?_
  refine V_iconst (v := 1) (pc2 := 269) dL_law_268 (by decide) ?_
  refine V_iadd (pc2 := 270) dL_law_269 ?_
  refine V_sld (pc2 := 271) s1 dL_law_270 ?_
  refine V_aload_n (pc2 := 272) dL_law_271 0 rfl rfl ?_
  refine V_iload_n (pc2 := 273) dL_law_272 3 rfl rfl ?_
  refine V_iconst (v := 2) (pc2 := 274) dL_law_273 (by decide) ?_
  refine V_iadd (pc2 := 275) dL_law_274 ?_
  refine V_sld (pc2 := 276) s2 dL_law_275 ?_
  refine V_c8 (pc2 := 279) [.int (sX D (i + 1)), .int (sX D (i + 2))] (st := [.int r]) (tX8_childTold hy) ha1 (ref_at hR) dL_law_276 wV_ParcelRingLaw_22 (by decide) rfl (Nat.le_of_ble_eq_true rfl) (fun ha2 => ?_)
  refine V_icmp_eq (pc2 := 282) (tgt := 1563) dL_law_279 (fun _ => ?_) (fun z => absurd rfl z)
  exact hk nT nd ad e fj fb ⟨hL, hR, hI, ha2, rfl, rfl⟩
theorem LW_lays (hS : LwS nT nd nd2 ad ad2 c fi fa a1 a2) (hi : i + 6 ≤ sN D) (hN : sN D ≤ 384) (hk : LwK D nm i a1 a2 nd2 ad2 kc ks Q) : V D 140 (IL nm) 284 (lwL D a1 a2 i) [] (mun (MM nd c) (MR nd2 ad2 fi fa)) (kc + 3) (ks + 188) Q := by
  obtain ⟨hL, hR, h, ha, rfl, rfl⟩ := hS
  obtain ⟨r, e, fj, fb, hx, hy, hI⟩ := L_lays hL hR h (sX D (i + 1)) (sX D (i + 2)) (sX D (i + 3))
  have s1 : sld D (nI i + 1) = some (sX D (i + 1)) := sld_at (k := 1) (by omega) hN
  have s2 : sld D (nI i + 2) = some (sX D (i + 2)) := sld_at (k := 2) (by omega) hN
  have s3 : sld D (nI i + 3) = some (sX D (i + 3)) := sld_at (k := 3) (by omega) hN
  refine V_kc (kc2 := kc) (ks2 := ks) (by omega) (by omega) ?_
  refine V_aload_n (pc2 := 285) dL_law_284 1 rfl rfl ?_
  refine V_aload_n (pc2 := 286) dL_law_285 0 rfl rfl ?_
  refine V_iload_n (pc2 := 287) dL_law_286 3 rfl rfl ?_
  refine V_iconst (v := 1) (pc2 := 288) dL_law_287 (by decide) ?_
  refine V_iadd (pc2 := 289) dL_law_288 ?_
  refine V_sld (pc2 := 290) s1 dL_law_289 ?_
  refine V_aload_n (pc2 := 291) dL_law_290 0 rfl rfl ?_
  refine V_iload_n (pc2 := 292) dL_law_291 3 rfl rfl ?_
  refine V_iconst (v := 2) (pc2 := 293) dL_law_292 (by decide) ?_
  refine V_iadd (pc2 := 294) dL_law_293 ?_
  refine V_sld (pc2 := 295) s2 dL_law_294 ?_
  refine V_aload_n (pc2 := 296) dL_law_295 0 rfl rfl ?_
  refine V_iload_n (pc2 := 297) dL_law_296 3 rfl rfl ?_
  refine V_iconst (v := 3) (pc2 := 298) dL_law_297 (by decide) ?_
  refine V_iadd (pc2 := 299) dL_law_298 ?_
  refine V_sld (pc2 := 300) s3 dL_law_299 ?_
  refine V_c7 (pc2 := 303) [.int (sX D (i + 1)), .int (sX D (i + 2)), .int (sX D (i + 3))] (st := []) (tX7_lays hx) ha (cls_at hL h) dL_law_300 wV_ParcelRingLaw_23 (by decide) rfl (Nat.le_of_ble_eq_true rfl) (fun ha1 => ?_)
  refine V_aload_n (pc2 := 304) dL_law_303 2 rfl rfl ?_
  refine V_aload_n (pc2 := 305) dL_law_304 0 rfl rfl ?_
  refine V_iload_n (pc2 := 306) dL_law_305 3 rfl rfl ?_
  refine V_iconst (v := 1) (pc2 := 307) dL_law_306 (by decide) ?_
  refine V_iadd (pc2 := 308) dL_law_307 ?_
  refine V_sld (pc2 := 309) s1 dL_law_308 ?_
  refine V_aload_n (pc2 := 310) dL_law_309 0 rfl rfl ?_
  refine V_iload_n (pc2 := 311) dL_law_310 3 rfl rfl ?_
  refine V_iconst (v := 2) (pc2 := 312) dL_law_311 (by decide) ?_
  refine V_iadd (pc2 := 313) dL_law_312 ?_
  refine V_sld (pc2 := 314) s2 dL_law_313 ?_
  refine V_aload_n (pc2 := 315) dL_law_314 0 rfl rfl ?_
  refine V_iload_n (pc2 := 316) dL_law_315 3 rfl rfl ?_
  refine V_iconst (v := 3) (pc2 := 317) dL_law_316 (by decide) ?_
  refine V_iadd (pc2 := 318) dL_law_317 ?_
  refine V_sld (pc2 := 319) s3 dL_law_318 ?_
  refine V_c8 (pc2 := 322) [.int (sX D (i + 1)), .int (sX D (i + 2)), .int (sX D (i + 3))] (st := [.int r]) (tX8_lays hy) ha1 (ref_at hR) dL_law_319 wV_ParcelRingLaw_27 (by decide) rfl (Nat.le_of_ble_eq_true rfl) (fun ha2 => ?_)
  refine V_icmp_eq (pc2 := 325) (tgt := 1563) dL_law_322 (fun _ => ?_) (fun z => absurd rfl z)
  exact hk nT nd ad e fj fb ⟨hL, hR, hI, ha2, rfl, rfl⟩
theorem LW_paper (hS : LwS nT nd nd2 ad ad2 c fi fa a1 a2) (hi : i + 6 ≤ sN D) (hN : sN D ≤ 384) (hk : LwK D nm i a1 a2 nd2 ad2 kc ks Q) : V D 140 (IL nm) 327 (lwL D a1 a2 i) [] (mun (MM nd c) (MR nd2 ad2 fi fa)) (kc + 3) (ks + 188) Q := by
  obtain ⟨hL, hR, h, ha, rfl, rfl⟩ := hS
  obtain ⟨r, e, fj, fb, hx, hy, hI⟩ := L_paper hL hR h (sX D (i + 1))
  have s1 : sld D (nI i + 1) = some (sX D (i + 1)) := sld_at (k := 1) (by omega) hN
  refine V_kc (kc2 := kc) (ks2 := ks) (by omega) (by omega) ?_
  refine V_aload_n (pc2 := 328) dL_law_327 1 rfl rfl ?_
  refine V_aload_n (pc2 := 329) dL_law_328 0 rfl rfl ?_
  refine V_iload_n (pc2 := 330) dL_law_329 3 rfl rfl ?_
  refine V_iconst (v := 1) (pc2 := 331) dL_law_330 (by decide) ?_
  refine V_iadd (pc2 := 332) dL_law_331 ?_
  refine V_sld (pc2 := 333) s1 dL_law_332 ?_
  refine V_c7 (pc2 := 336) [.int (sX D (i + 1))] (st := []) (tX7_paper hx) ha (cls_at hL h) dL_law_333 wV_ParcelRingLaw_28 (by decide) rfl (Nat.le_of_ble_eq_true rfl) (fun ha1 => ?_)
  refine V_aload_n (pc2 := 337) dL_law_336 2 rfl rfl ?_
  refine V_aload_n (pc2 := 338) dL_law_337 0 rfl rfl ?_
  refine V_iload_n (pc2 := 339) dL_law_338 3 rfl rfl ?_
  refine V_iconst (v := 1) (pc2 := 340) dL_law_339 (by decide) ?_
  refine V_iadd (pc2 := 341) dL_law_340 ?_
  refine V_sld (pc2 := 342) s1 dL_law_341 ?_
  refine V_c8 (pc2 := 345) [.int (sX D (i + 1))] (st := [.int r]) (tX8_paper hy) ha1 (ref_at hR) dL_law_342 wV_ParcelRingLaw_31 (by decide) rfl (Nat.le_of_ble_eq_true rfl) (fun ha2 => ?_)
  refine V_icmp_eq (pc2 := 348) (tgt := 1563) dL_law_345 (fun _ => ?_) (fun z => absurd rfl z)
  exact hk nT nd ad e fj fb ⟨hL, hR, hI, ha2, rfl, rfl⟩
theorem LW_sorts (hS : LwS nT nd nd2 ad ad2 c fi fa a1 a2) (hi : i + 6 ≤ sN D) (hN : sN D ≤ 384) (hk : LwK D nm i a1 a2 nd2 ad2 kc ks Q) : V D 140 (IL nm) 350 (lwL D a1 a2 i) [] (mun (MM nd c) (MR nd2 ad2 fi fa)) (kc + 3) (ks + 188) Q := by
  obtain ⟨hL, hR, h, ha, rfl, rfl⟩ := hS
  obtain ⟨r, e, fj, fb, hx, hy, hI⟩ := L_sorts hL hR h (sX D (i + 1)) (sX D (i + 2))
  have s1 : sld D (nI i + 1) = some (sX D (i + 1)) := sld_at (k := 1) (by omega) hN
  have s2 : sld D (nI i + 2) = some (sX D (i + 2)) := sld_at (k := 2) (by omega) hN
  refine V_kc (kc2 := kc) (ks2 := ks) (by omega) (by omega) ?_
  refine V_aload_n (pc2 := 351) dL_law_350 1 rfl rfl ?_
  refine V_aload_n (pc2 := 352) dL_law_351 0 rfl rfl ?_
  refine V_iload_n (pc2 := 353) dL_law_352 3 rfl rfl ?_
  refine V_iconst (v := 1) (pc2 := 354) dL_law_353 (by decide) ?_
  refine V_iadd (pc2 := 355) dL_law_354 ?_
  refine V_sld (pc2 := 356) s1 dL_law_355 ?_
  refine V_aload_n (pc2 := 357) dL_law_356 0 rfl rfl ?_
  refine V_iload_n (pc2 := 358) dL_law_357 3 rfl rfl ?_
  refine V_iconst (v := 2) (pc2 := 359) dL_law_358 (by decide) ?_
  refine V_iadd (pc2 := 360) dL_law_359 ?_
  refine V_sld (pc2 := 361) s2 dL_law_360 ?_
  refine V_c7 (pc2 := 364) [.int (sX D (i + 1)), .int (sX D (i + 2))] (st := []) (tX7_sorts hx) ha (cls_at hL h) dL_law_361 wV_ParcelRingLaw_32 (by decide) rfl (Nat.le_of_ble_eq_true rfl) (fun ha1 => ?_)
  refine V_aload_n (pc2 := 365) dL_law_364 2 rfl rfl ?_
  refine V_aload_n (pc2 := 366) dL_law_365 0 rfl rfl ?_
  refine V_iload_n (pc2 := 367) dL_law_366 3 rfl rfl ?_
  refine V_iconst (v := 1) (pc2 := 368) dL_law_367 (by decide) ?_
  refine V_iadd (pc2 := 369) dL_law_368 ?_
  refine V_sld (pc2 := 370) s1 dL_law_369 ?_
  refine V_aload_n (pc2 := 371) dL_law_370 0 rfl rfl ?_
  refine V_iload_n (pc2 := 372) dL_law_371 3 rfl rfl ?_
  refine V_iconst (v := 2) (pc2 := 373) dL_law_372 (by decide) ?_
  refine V_iadd (pc2 := 374) dL_law_373 ?_
  refine V_sld (pc2 := 375) s2 dL_law_374 ?_
  refine V_c8 (pc2 := 378) [.int (sX D (i + 1)), .int (sX D (i + 2))] (st := [.int r]) (tX8_sorts hy) ha1 (ref_at hR) dL_law_375 wV_ParcelRingLaw_35 (by decide) rfl (Nat.le_of_ble_eq_true rfl) (fun ha2 => ?_)
  refine V_icmp_eq (pc2 := 381) (tgt := 1563) dL_law_378 (fun _ => ?_) (fun z => absurd rfl z)
  exact hk nT nd ad e fj fb ⟨hL, hR, hI, ha2, rfl, rfl⟩
theorem LW_rule (hS : LwS nT nd nd2 ad ad2 c fi fa a1 a2) (hi : i + 6 ≤ sN D) (hN : sN D ≤ 384) (hk : LwK D nm i a1 a2 nd2 ad2 kc ks Q) : V D 140 (IL nm) 383 (lwL D a1 a2 i) [] (mun (MM nd c) (MR nd2 ad2 fi fa)) (kc + 3) (ks + 188) Q := by
  obtain ⟨hL, hR, h, ha, rfl, rfl⟩ := hS
  obtain ⟨r, e, fj, fb, hx, hy, hI⟩ := L_rule hL hR h (sX D (i + 1)) (sX D (i + 2))
  have s1 : sld D (nI i + 1) = some (sX D (i + 1)) := sld_at (k := 1) (by omega) hN
  have s2 : sld D (nI i + 2) = some (sX D (i + 2)) := sld_at (k := 2) (by omega) hN
  refine V_kc (kc2 := kc) (ks2 := ks) (by omega) (by omega) ?_
  refine V_aload_n (pc2 := 384) dL_law_383 1 rfl rfl ?_
  refine V_aload_n (pc2 := 385) dL_law_384 0 rfl rfl ?_
  refine V_iload_n (pc2 := 386) dL_law_385 3 rfl rfl ?_
  refine V_iconst (v := 1) (pc2 := 387) dL_law_386 (by decide) ?_
  refine V_iadd (pc2 := 388) dL_law_387 ?_
  refine V_sld (pc2 := 389) s1 dL_law_388 ?_
  refine V_aload_n (pc2 := 390) dL_law_389 0 rfl rfl ?_
  refine V_iload_n (pc2 := 391) dL_law_390 3 rfl rfl ?_
  refine V_iconst (v := 2) (pc2 := 392) dL_law_391 (by decide) ?_
  refine V_iadd (pc2 := 393) dL_law_392 ?_
  refine V_sld (pc2 := 394) s2 dL_law_393 ?_
  refine V_c7 (pc2 := 397) [.int (sX D (i + 1)), .int (sX D (i + 2))] (st := []) (tX7_rule hx) ha (cls_at hL h) dL_law_394 wV_ParcelRingLaw_36 (by decide) rfl (Nat.le_of_ble_eq_true rfl) (fun ha1 => ?_)
  refine V_aload_n (pc2 := 398) dL_law_397 2 rfl rfl ?_
  refine V_aload_n (pc2 := 399) dL_law_398 0 rfl rfl ?_
  refine V_iload_n (pc2 := 400) dL_law_399 3 rfl rfl ?_
  refine V_iconst (v := 1) (pc2 := 401) dL_law_400 (by decide) ?_
  refine V_iadd (pc2 := 402) dL_law_401 ?_
  refine V_sld (pc2 := 403) s1 dL_law_402 ?_
  refine V_aload_n (pc2 := 404) dL_law_403 0 rfl rfl ?_
  refine V_iload_n (pc2 := 405) dL_law_404 3 rfl rfl ?_
  refine V_iconst (v := 2) (pc2 := 406) dL_law_405 (by decide) ?_
  refine V_iadd (pc2 := 407) dL_law_406 ?_
  refine V_sld (pc2 := 408) s2 dL_law_407 ?_
  refine V_c8 (pc2 := 411) [.int (sX D (i + 1)), .int (sX D (i + 2))] (st := [.int r]) (tX8_rule hy) ha1 (ref_at hR) dL_law_408 wV_ParcelRingLaw_39 (by decide) rfl (Nat.le_of_ble_eq_true rfl) (fun ha2 => ?_)
  refine V_icmp_eq (pc2 := 414) (tgt := 1563) dL_law_411 (fun _ => ?_) (fun z => absurd rfl z)
  exact hk nT nd ad e fj fb ⟨hL, hR, hI, ha2, rfl, rfl⟩
theorem LW_stop (hS : LwS nT nd nd2 ad ad2 c fi fa a1 a2) (hi : i + 6 ≤ sN D) (hN : sN D ≤ 384) (hk : LwK D nm i a1 a2 nd2 ad2 kc ks Q) : V D 140 (IL nm) 416 (lwL D a1 a2 i) [] (mun (MM nd c) (MR nd2 ad2 fi fa)) (kc + 3) (ks + 188) Q := by
  obtain ⟨hL, hR, h, ha, rfl, rfl⟩ := hS
  obtain ⟨r, e, fj, fb, hx, hy, hI⟩ := L_stop hL hR h (sX D (i + 1)) (sX D (i + 2)) (sX D (i + 3))
  have s1 : sld D (nI i + 1) = some (sX D (i + 1)) := sld_at (k := 1) (by omega) hN
  have s2 : sld D (nI i + 2) = some (sX D (i + 2)) := sld_at (k := 2) (by omega) hN
  have s3 : sld D (nI i + 3) = some (sX D (i + 3)) := sld_at (k := 3) (by omega) hN
  refine V_kc (kc2 := kc) (ks2 := ks) (by omega) (by omega) ?_
  refine V_aload_n (pc2 := 417) dL_law_416 1 rfl rfl ?_
  refine V_aload_n (pc2 := 418) dL_law_417 0 rfl rfl ?_
  refine V_iload_n (pc2 := 419) dL_law_418 3 rfl rfl ?_
  refine V_iconst (v := 1) (pc2 := 420) dL_law_419 (by decide) ?_
  refine V_iadd (pc2 := 421) dL_law_420 ?_
  refine V_sld (pc2 := 422) s1 dL_law_421 ?_
  refine V_aload_n (pc2 := 423) dL_law_422 0 rfl rfl ?_
  refine V_iload_n (pc2 := 424) dL_law_423 3 rfl rfl ?_
  refine V_iconst (v := 2) (pc2 := 425) dL_law_424 (by decide) ?_
  refine V_iadd (pc2 := 426) dL_law_425 ?_
  refine V_sld (pc2 := 427) s2 dL_law_426 ?_
  refine V_aload_n (pc2 := 428) dL_law_427 0 rfl rfl ?_
  refine V_iload_n (pc2 := 429) dL_law_428 3 rfl rfl ?_
  refine V_iconst (v := 3) (pc2 := 430) dL_law_429 (by decide) ?_
  refine V_iadd (pc2 := 431) dL_law_430 ?_
  refine V_sld (pc2 := 432) s3 dL_law_431 ?_
  refine V_c7 (pc2 := 435) [.int (sX D (i + 1)), .int (sX D (i + 2)), .int (sX D (i + 3))] (st := []) (tX7_stop hx) ha (cls_at hL h) dL_law_432 wV_ParcelRingLaw_40 (by decide) rfl (Nat.le_of_ble_eq_true rfl) (fun ha1 => ?_)
  refine V_aload_n (pc2 := 436) dL_law_435 2 rfl rfl ?_
  refine V_aload_n (pc2 := 437) dL_law_436 0 rfl rfl ?_
  refine V_iload_n (pc2 := 438) dL_law_437 3 rfl rfl ?_
  refine V_iconst (v := 1) (pc2 := 439) dL_law_438 (by decide) ?_
  refine V_iadd (pc2 := 440) dL_law_439 ?_
  refine V_sld (pc2 := 441) s1 dL_law_440 ?_
  refine V_aload_n (pc2 := 442) dL_law_441 0 rfl rfl ?_
  refine V_iload_n (pc2 := 443) dL_law_442 3 rfl rfl ?_
  refine V_iconst (v := 2) (pc2 := 444) dL_law_443 (by decide) ?_
  refine V_iadd (pc2 := 445) dL_law_444 ?_
  refine V_sld (pc2 := 446) s2 dL_law_445 ?_
  refine V_aload_n (pc2 := 447) dL_law_446 0 rfl rfl ?_
  refine V_iload_n (pc2 := 448) dL_law_447 3 rfl rfl ?_
  refine V_iconst (v := 3) (pc2 := 449) dL_law_448 (by decide) ?_
  refine V_iadd (pc2 := 450) dL_law_449 ?_
  refine V_sld (pc2 := 451) s3 dL_law_450 ?_
  refine V_c8 (pc2 := 454) [.int (sX D (i + 1)), .int (sX D (i + 2)), .int (sX D (i + 3))] (st := [.int r]) (tX8_stop hy) ha1 (ref_at hR) dL_law_451 wV_ParcelRingLaw_43 (by decide) rfl (Nat.le_of_ble_eq_true rfl) (fun ha2 => ?_)
  refine V_icmp_eq (pc2 := 457) (tgt := 1563) dL_law_454 (fun _ => ?_) (fun z => absurd rfl z)
  exact hk nT nd ad e fj fb ⟨hL, hR, hI, ha2, rfl, rfl⟩
theorem LW_told (hS : LwS nT nd nd2 ad ad2 c fi fa a1 a2) (hi : i + 6 ≤ sN D) (hN : sN D ≤ 384) (hk : LwK D nm i a1 a2 nd2 ad2 kc ks Q) : V D 140 (IL nm) 459 (lwL D a1 a2 i) [] (mun (MM nd c) (MR nd2 ad2 fi fa)) (kc + 3) (ks + 188) Q := by
  obtain ⟨hL, hR, h, ha, rfl, rfl⟩ := hS
  obtain ⟨r, e, fj, fb, hx, hy, hI⟩ := L_told hL hR h (sX D (i + 1)) (sX D (i + 2))
  have s1 : sld D (nI i + 1) = some (sX D (i + 1)) := sld_at (k := 1) (by omega) hN
  have s2 : sld D (nI i + 2) = some (sX D (i + 2)) := sld_at (k := 2) (by omega) hN
  refine V_kc (kc2 := kc) (ks2 := ks) (by omega) (by omega) ?_
  refine V_aload_n (pc2 := 460) dL_law_459 1 rfl rfl ?_
  refine V_aload_n (pc2 := 461) dL_law_460 0 rfl rfl ?_
  refine V_iload_n (pc2 := 462) dL_law_461 3 rfl rfl ?_
  refine V_iconst (v := 1) (pc2 := 463) dL_law_462 (by decide) ?_
  refine V_iadd (pc2 := 464) dL_law_463 ?_
  refine V_sld (pc2 := 465) s1 dL_law_464 ?_
  refine V_aload_n (pc2 := 466) dL_law_465 0 rfl rfl ?_
  refine V_iload_n (pc2 := 467) dL_law_466 3 rfl rfl ?_
  refine V_iconst (v := 2) (pc2 := 468) dL_law_467 (by decide) ?_
  refine V_iadd (pc2 := 469) dL_law_468 ?_
  refine V_sld (pc2 := 470) s2 dL_law_469 ?_
  refine V_c7 (pc2 := 473) [.int (sX D (i + 1)), .int (sX D (i + 2))] (st := []) (tX7_told hx) ha (cls_at hL h) dL_law_470 wV_ParcelRingLaw_44 (by decide) rfl (Nat.le_of_ble_eq_true rfl) (fun ha1 => ?_)
  refine V_aload_n (pc2 := 474) dL_law_473 2 rfl rfl ?_
  refine V_aload_n (pc2 := 475) dL_law_474 0 rfl rfl ?_
  refine V_iload_n (pc2 := 476) dL_law_475 3 rfl rfl ?_
  refine V_iconst (v := 1) (pc2 := 477) dL_law_476 (by decide) ?_
  refine V_iadd (pc2 := 478) dL_law_477 ?_
  refine V_sld (pc2 := 479) s1 dL_law_478 ?_
  refine V_aload_n (pc2 := 480) dL_law_479 0 rfl rfl ?_
  refine V_iload_n (pc2 := 481) dL_law_480 3 rfl rfl ?_
  refine V_iconst (v := 2) (pc2 := 482) dL_law_481 (by decide) ?_
  refine V_iadd (pc2 := 483) dL_law_482 ?_
  refine V_sld (pc2 := 484) s2 dL_law_483 ?_
  refine V_c8 (pc2 := 487) [.int (sX D (i + 1)), .int (sX D (i + 2))] (st := [.int r]) (tX8_told hy) ha1 (ref_at hR) dL_law_484 wV_ParcelRingLaw_47 (by decide) rfl (Nat.le_of_ble_eq_true rfl) (fun ha2 => ?_)
  refine V_icmp_eq (pc2 := 490) (tgt := 1563) dL_law_487 (fun _ => ?_) (fun z => absurd rfl z)
  exact hk nT nd ad e fj fb ⟨hL, hR, hI, ha2, rfl, rfl⟩
theorem LW_as (hS : LwS nT nd nd2 ad ad2 c fi fa a1 a2) (hi : i + 6 ≤ sN D) (hN : sN D ≤ 384) (hk : LwK D nm i a1 a2 nd2 ad2 kc ks Q) : V D 140 (IL nm) 492 (lwL D a1 a2 i) [] (mun (MM nd c) (MR nd2 ad2 fi fa)) (kc + 3) (ks + 188) Q := by
  obtain ⟨hL, hR, h, ha, rfl, rfl⟩ := hS
  obtain ⟨r, hx, hy⟩ := L_as hL hR h (sX D (i + 1)) (sX D (i + 2))
  have s1 : sld D (nI i + 1) = some (sX D (i + 1)) := sld_at (k := 1) (by omega) hN
  have s2 : sld D (nI i + 2) = some (sX D (i + 2)) := sld_at (k := 2) (by omega) hN
  refine V_kc (kc2 := kc) (ks2 := ks) (by omega) (by omega) ?_
  refine V_aload_n (pc2 := 493) dL_law_492 1 rfl rfl ?_
  refine V_aload_n (pc2 := 494) dL_law_493 0 rfl rfl ?_
  refine V_iload_n (pc2 := 495) dL_law_494 3 rfl rfl ?_
  refine V_iconst (v := 1) (pc2 := 496) dL_law_495 (by decide) ?_
  refine V_iadd (pc2 := 497) dL_law_496 ?_
  refine V_sld (pc2 := 498) s1 dL_law_497 ?_
  refine V_aload_n (pc2 := 499) dL_law_498 0 rfl rfl ?_
  refine V_iload_n (pc2 := 500) dL_law_499 3 rfl rfl ?_
  refine V_iconst (v := 2) (pc2 := 501) dL_law_500 (by decide) ?_
  refine V_iadd (pc2 := 502) dL_law_501 ?_
  refine V_sld (pc2 := 503) s2 dL_law_502 ?_
  refine V_c7 (pc2 := 506) [.int (sX D (i + 1)), .int (sX D (i + 2))] (st := []) (tX7_as hx) ha (cls_at hL h) dL_law_503 wV_ParcelRingLaw_48 (by decide) rfl (Nat.le_of_ble_eq_true rfl) (fun ha1 => ?_)
  refine V_aload_n (pc2 := 507) dL_law_506 2 rfl rfl ?_
  refine V_aload_n (pc2 := 508) dL_law_507 0 rfl rfl ?_
  refine V_iload_n (pc2 := 509) dL_law_508 3 rfl rfl ?_
  refine V_iconst (v := 1) (pc2 := 510) dL_law_509 (by decide) ?_
  refine V_iadd (pc2 := 511) dL_law_510 ?_
  refine V_sld (pc2 := 512) s1 dL_law_511 ?_
  refine V_aload_n (pc2 := 513) dL_law_512 0 rfl rfl ?_
  refine V_iload_n (pc2 := 514) dL_law_513 3 rfl rfl ?_
  refine V_iconst (v := 2) (pc2 := 515) dL_law_514 (by decide) ?_
  refine V_iadd (pc2 := 516) dL_law_515 ?_
  refine V_sld (pc2 := 517) s2 dL_law_516 ?_
  refine V_c8 (pc2 := 520) [.int (sX D (i + 1)), .int (sX D (i + 2))] (st := [.int r]) (tX8_as hy) ha1 (ref_at hR) dL_law_517 wV_ParcelRingLaw_51 (by decide) rfl (Nat.le_of_ble_eq_true rfl) (fun ha2 => ?_)
  refine V_icmp_eq (pc2 := 523) (tgt := 1563) dL_law_520 (fun _ => ?_) (fun z => absurd rfl z)
  exact hk nT nd ad c fi fa ⟨hL, hR, h, ha2, rfl, rfl⟩
theorem LW_turns (hS : LwS nT nd nd2 ad ad2 c fi fa a1 a2) (hi : i + 6 ≤ sN D) (hN : sN D ≤ 384) (hk : LwK D nm i a1 a2 nd2 ad2 kc ks Q) : V D 140 (IL nm) 525 (lwL D a1 a2 i) [] (mun (MM nd c) (MR nd2 ad2 fi fa)) (kc + 3) (ks + 188) Q := by
  obtain ⟨hL, hR, h, ha, rfl, rfl⟩ := hS
  obtain ⟨r, e, fj, fb, hx, hy, hI⟩ := L_turns hL hR h (sX D (i + 1)) (sX D (i + 2))
  have s1 : sld D (nI i + 1) = some (sX D (i + 1)) := sld_at (k := 1) (by omega) hN
  have s2 : sld D (nI i + 2) = some (sX D (i + 2)) := sld_at (k := 2) (by omega) hN
  refine V_kc (kc2 := kc) (ks2 := ks) (by omega) (by omega) ?_
  refine V_aload_n (pc2 := 526) dL_law_525 1 rfl rfl ?_
  refine V_aload_n (pc2 := 527) dL_law_526 0 rfl rfl ?_
  refine V_iload_n (pc2 := 528) dL_law_527 3 rfl rfl ?_
  refine V_iconst (v := 1) (pc2 := 529) dL_law_528 (by decide) ?_
  refine V_iadd (pc2 := 530) dL_law_529 ?_
  refine V_sld (pc2 := 531) s1 dL_law_530 ?_
  refine V_aload_n (pc2 := 532) dL_law_531 0 rfl rfl ?_
  refine V_iload_n (pc2 := 533) dL_law_532 3 rfl rfl ?_
  refine V_iconst (v := 2) (pc2 := 534) dL_law_533 (by decide) ?_
  refine V_iadd (pc2 := 535) dL_law_534 ?_
  refine V_sld (pc2 := 536) s2 dL_law_535 ?_
  refine V_c7 (pc2 := 539) [.int (sX D (i + 1)), .int (sX D (i + 2))] (st := []) (tX7_turns hx) ha (cls_at hL h) dL_law_536 wV_ParcelRingLaw_52 (by decide) rfl (Nat.le_of_ble_eq_true rfl) (fun ha1 => ?_)
  refine V_aload_n (pc2 := 540) dL_law_539 2 rfl rfl ?_
  refine V_aload_n (pc2 := 541) dL_law_540 0 rfl rfl ?_
  refine V_iload_n (pc2 := 542) dL_law_541 3 rfl rfl ?_
  refine V_iconst (v := 1) (pc2 := 543) dL_law_542 (by decide) ?_
  refine V_iadd (pc2 := 544) dL_law_543 ?_
  refine V_sld (pc2 := 545) s1 dL_law_544 ?_
  refine V_aload_n (pc2 := 546) dL_law_545 0 rfl rfl ?_
  refine V_iload_n (pc2 := 547) dL_law_546 3 rfl rfl ?_
  refine V_iconst (v := 2) (pc2 := 548) dL_law_547 (by decide) ?_
  refine V_iadd (pc2 := 549) dL_law_548 ?_
  refine V_sld (pc2 := 550) s2 dL_law_549 ?_
  refine V_c8 (pc2 := 553) [.int (sX D (i + 1)), .int (sX D (i + 2))] (st := [.int r]) (tX8_turns hy) ha1 (ref_at hR) dL_law_550 wV_ParcelRingLaw_55 (by decide) rfl (Nat.le_of_ble_eq_true rfl) (fun ha2 => ?_)
  refine V_icmp_eq (pc2 := 556) (tgt := 1563) dL_law_553 (fun _ => ?_) (fun z => absurd rfl z)
  exact hk nT nd ad e fj fb ⟨hL, hR, hI, ha2, rfl, rfl⟩
theorem LW_set (hS : LwS nT nd nd2 ad ad2 c fi fa a1 a2) (hi : i + 6 ≤ sN D) (hN : sN D ≤ 384) (hk : LwK D nm i a1 a2 nd2 ad2 kc ks Q) : V D 140 (IL nm) 558 (lwL D a1 a2 i) [] (mun (MM nd c) (MR nd2 ad2 fi fa)) (kc + 3) (ks + 188) Q := by
  obtain ⟨hL, hR, h, ha, rfl, rfl⟩ := hS
  obtain ⟨r, e, fj, fb, hx, hy, hI⟩ := L_set hL hR h (sX D (i + 1)) (sX D (i + 2)) (sX D (i + 3))
  have s1 : sld D (nI i + 1) = some (sX D (i + 1)) := sld_at (k := 1) (by omega) hN
  have s2 : sld D (nI i + 2) = some (sX D (i + 2)) := sld_at (k := 2) (by omega) hN
  have s3 : sld D (nI i + 3) = some (sX D (i + 3)) := sld_at (k := 3) (by omega) hN
  refine V_kc (kc2 := kc) (ks2 := ks) (by omega) (by omega) ?_
  refine V_aload_n (pc2 := 559) dL_law_558 1 rfl rfl ?_
  refine V_aload_n (pc2 := 560) dL_law_559 0 rfl rfl ?_
  refine V_iload_n (pc2 := 561) dL_law_560 3 rfl rfl ?_
  refine V_iconst (v := 1) (pc2 := 562) dL_law_561 (by decide) ?_
  refine V_iadd (pc2 := 563) dL_law_562 ?_
  refine V_sld (pc2 := 564) s1 dL_law_563 ?_
  refine V_aload_n (pc2 := 565) dL_law_564 0 rfl rfl ?_
  refine V_iload_n (pc2 := 566) dL_law_565 3 rfl rfl ?_
  refine V_iconst (v := 2) (pc2 := 567) dL_law_566 (by decide) ?_
  refine V_iadd (pc2 := 568) dL_law_567 ?_
  refine V_sld (pc2 := 569) s2 dL_law_568 ?_
  refine V_aload_n (pc2 := 570) dL_law_569 0 rfl rfl ?_
  refine V_iload_n (pc2 := 571) dL_law_570 3 rfl rfl ?_
  refine V_iconst (v := 3) (pc2 := 572) dL_law_571 (by decide) ?_
  refine V_iadd (pc2 := 573) dL_law_572 ?_
  refine V_sld (pc2 := 574) s3 dL_law_573 ?_
  refine V_c7 (pc2 := 577) [.int (sX D (i + 1)), .int (sX D (i + 2)), .int (sX D (i + 3))] (st := []) (tX7_set hx) ha (cls_at hL h) dL_law_574 wV_ParcelRingLaw_56 (by decide) rfl (Nat.le_of_ble_eq_true rfl) (fun ha1 => ?_)
  refine V_aload_n (pc2 := 578) dL_law_577 2 rfl rfl ?_
  refine V_aload_n (pc2 := 579) dL_law_578 0 rfl rfl ?_
  refine V_iload_n (pc2 := 580) dL_law_579 3 rfl rfl ?_
  refine V_iconst (v := 1) (pc2 := 581) dL_law_580 (by decide) ?_
  refine V_iadd (pc2 := 582) dL_law_581 ?_
  refine V_sld (pc2 := 583) s1 dL_law_582 ?_
  refine V_aload_n (pc2 := 584) dL_law_583 0 rfl rfl ?_
  refine V_iload_n (pc2 := 585) dL_law_584 3 rfl rfl ?_
  refine V_iconst (v := 2) (pc2 := 586) dL_law_585 (by decide) ?_
  refine V_iadd (pc2 := 587) dL_law_586 ?_
  refine V_sld (pc2 := 588) s2 dL_law_587 ?_
  refine V_aload_n (pc2 := 589) dL_law_588 0 rfl rfl ?_
  refine V_iload_n (pc2 := 590) dL_law_589 3 rfl rfl ?_
  refine V_iconst (v := 3) (pc2 := 591) dL_law_590 (by decide) ?_
  refine V_iadd (pc2 := 592) dL_law_591 ?_
  refine V_sld (pc2 := 593) s3 dL_law_592 ?_
  refine V_c8 (pc2 := 596) [.int (sX D (i + 1)), .int (sX D (i + 2)), .int (sX D (i + 3))] (st := [.int r]) (tX8_set hy) ha1 (ref_at hR) dL_law_593 wV_ParcelRingLaw_59 (by decide) rfl (Nat.le_of_ble_eq_true rfl) (fun ha2 => ?_)
  refine V_icmp_eq (pc2 := 599) (tgt := 1563) dL_law_596 (fun _ => ?_) (fun z => absurd rfl z)
  exact hk nT nd ad e fj fb ⟨hL, hR, hI, ha2, rfl, rfl⟩
theorem LW_deal (hS : LwS nT nd nd2 ad ad2 c fi fa a1 a2) (hi : i + 6 ≤ sN D) (hN : sN D ≤ 384) (hk : LwK D nm i a1 a2 nd2 ad2 kc ks Q) : V D 140 (IL nm) 601 (lwL D a1 a2 i) [] (mun (MM nd c) (MR nd2 ad2 fi fa)) (kc + 3) (ks + 188) Q := by
  obtain ⟨hL, hR, h, ha, rfl, rfl⟩ := hS
  obtain ⟨r, e, fj, fb, hx, hy, hI⟩ := L_deal hL hR h (sX D (i + 1))
  have s1 : sld D (nI i + 1) = some (sX D (i + 1)) := sld_at (k := 1) (by omega) hN
  refine V_kc (kc2 := kc) (ks2 := ks) (by omega) (by omega) ?_
  refine V_aload_n (pc2 := 602) dL_law_601 1 rfl rfl ?_
  refine V_aload_n (pc2 := 603) dL_law_602 0 rfl rfl ?_
  refine V_iload_n (pc2 := 604) dL_law_603 3 rfl rfl ?_
  refine V_iconst (v := 1) (pc2 := 605) dL_law_604 (by decide) ?_
  refine V_iadd (pc2 := 606) dL_law_605 ?_
  refine V_sld (pc2 := 607) s1 dL_law_606 ?_
  refine V_c7 (pc2 := 610) [.int (sX D (i + 1))] (st := []) (tX7_deal hx) ha (cls_at hL h) dL_law_607 wV_ParcelRingLaw_60 (by decide) rfl (Nat.le_of_ble_eq_true rfl) (fun ha1 => ?_)
  refine V_aload_n (pc2 := 611) dL_law_610 2 rfl rfl ?_
  refine V_aload_n (pc2 := 612) dL_law_611 0 rfl rfl ?_
  refine V_iload_n (pc2 := 613) dL_law_612 3 rfl rfl ?_
  refine V_iconst (v := 1) (pc2 := 614) dL_law_613 (by decide) ?_
  refine V_iadd (pc2 := 615) dL_law_614 ?_
  refine V_sld (pc2 := 616) s1 dL_law_615 ?_
  refine V_c8 (pc2 := 619) [.int (sX D (i + 1))] (st := [.int r]) (tX8_deal hy) ha1 (ref_at hR) dL_law_616 wV_ParcelRingLaw_63 (by decide) rfl (Nat.le_of_ble_eq_true rfl) (fun ha2 => ?_)
  refine V_icmp_eq (pc2 := 622) (tgt := 1563) dL_law_619 (fun _ => ?_) (fun z => absurd rfl z)
  exact hk nT nd ad e fj fb ⟨hL, hR, hI, ha2, rfl, rfl⟩
theorem LW_seed (hS : LwS nT nd nd2 ad ad2 c fi fa a1 a2) (hi : i + 6 ≤ sN D) (hN : sN D ≤ 384) (hk : LwK D nm i a1 a2 nd2 ad2 kc ks Q) : V D 140 (IL nm) 624 (lwL D a1 a2 i) [] (mun (MM nd c) (MR nd2 ad2 fi fa)) (kc + 3) (ks + 188) Q := by
  obtain ⟨hL, hR, h, ha, rfl, rfl⟩ := hS
  obtain ⟨r, e, fj, fb, hx, hy, hI⟩ := L_seed hL hR h (sX D (i + 1))
  have s1 : sld D (nI i + 1) = some (sX D (i + 1)) := sld_at (k := 1) (by omega) hN
  refine V_kc (kc2 := kc) (ks2 := ks) (by omega) (by omega) ?_
  refine V_aload_n (pc2 := 625) dL_law_624 1 rfl rfl ?_
  refine V_aload_n (pc2 := 626) dL_law_625 0 rfl rfl ?_
  refine V_iload_n (pc2 := 627) dL_law_626 3 rfl rfl ?_
  refine V_iconst (v := 1) (pc2 := 628) dL_law_627 (by decide) ?_
  refine V_iadd (pc2 := 629) dL_law_628 ?_
  refine V_sld (pc2 := 630) s1 dL_law_629 ?_
  refine V_c7 (pc2 := 633) [.int (sX D (i + 1))] (st := []) (tX7_seed hx) ha (cls_at hL h) dL_law_630 wV_ParcelRingLaw_64 (by decide) rfl (Nat.le_of_ble_eq_true rfl) (fun ha1 => ?_)
  refine V_aload_n (pc2 := 634) dL_law_633 2 rfl rfl ?_
  refine V_aload_n (pc2 := 635) dL_law_634 0 rfl rfl ?_
  refine V_iload_n (pc2 := 636) dL_law_635 3 rfl rfl ?_
  refine V_iconst (v := 1) (pc2 := 637) dL_law_636 (by decide) ?_
  refine V_iadd (pc2 := 638) dL_law_637 ?_
  refine V_sld (pc2 := 639) s1 dL_law_638 ?_
  refine V_c8 (pc2 := 642) [.int (sX D (i + 1))] (st := [.int r]) (tX8_seed hy) ha1 (ref_at hR) dL_law_639 wV_ParcelRingLaw_67 (by decide) rfl (Nat.le_of_ble_eq_true rfl) (fun ha2 => ?_)
  refine V_icmp_eq (pc2 := 645) (tgt := 1563) dL_law_642 (fun _ => ?_) (fun z => absurd rfl z)
  exact hk nT nd ad e fj fb ⟨hL, hR, hI, ha2, rfl, rfl⟩
theorem LW_lands (hS : LwS nT nd nd2 ad ad2 c fi fa a1 a2) (hi : i + 6 ≤ sN D) (hN : sN D ≤ 384) (hk : LwK D nm i a1 a2 nd2 ad2 kc ks Q) : V D 140 (IL nm) 647 (lwL D a1 a2 i) [] (mun (MM nd c) (MR nd2 ad2 fi fa)) (kc + 3) (ks + 188) Q := by
  obtain ⟨hL, hR, h, ha, rfl, rfl⟩ := hS
  obtain ⟨r, e, fj, fb, hx, hy, hI⟩ := L_lands hL hR h (sX D (i + 1))
  have s1 : sld D (nI i + 1) = some (sX D (i + 1)) := sld_at (k := 1) (by omega) hN
  refine V_kc (kc2 := kc) (ks2 := ks) (by omega) (by omega) ?_
  refine V_aload_n (pc2 := 648) dL_law_647 1 rfl rfl ?_
  refine V_aload_n (pc2 := 649) dL_law_648 0 rfl rfl ?_
  refine V_iload_n (pc2 := 650) dL_law_649 3 rfl rfl ?_
  refine V_iconst (v := 1) (pc2 := 651) dL_law_650 (by decide) ?_
  refine V_iadd (pc2 := 652) dL_law_651 ?_
  refine V_sld (pc2 := 653) s1 dL_law_652 ?_
  refine V_c7 (pc2 := 656) [.int (sX D (i + 1))] (st := []) (tX7_lands hx) ha (cls_at hL h) dL_law_653 wV_ParcelRingLaw_68 (by decide) rfl (Nat.le_of_ble_eq_true rfl) (fun ha1 => ?_)
  refine V_aload_n (pc2 := 657) dL_law_656 2 rfl rfl ?_
  refine V_aload_n (pc2 := 658) dL_law_657 0 rfl rfl ?_
  refine V_iload_n (pc2 := 659) dL_law_658 3 rfl rfl ?_
  refine V_iconst (v := 1) (pc2 := 660) dL_law_659 (by decide) ?_
  refine V_iadd (pc2 := 661) dL_law_660 ?_
  refine V_sld (pc2 := 662) s1 dL_law_661 ?_
  refine V_c8 (pc2 := 665) [.int (sX D (i + 1))] (st := [.int r]) (tX8_lands hy) ha1 (ref_at hR) dL_law_662 wV_ParcelRingLaw_71 (by decide) rfl (Nat.le_of_ble_eq_true rfl) (fun ha2 => ?_)
  refine V_icmp_eq (pc2 := 668) (tgt := 1563) dL_law_665 (fun _ => ?_) (fun z => absurd rfl z)
  exact hk nT nd ad e fj fb ⟨hL, hR, hI, ha2, rfl, rfl⟩
theorem LW_round (hS : LwS nT nd nd2 ad ad2 c fi fa a1 a2) (hi : i + 6 ≤ sN D) (hN : sN D ≤ 384) (hk : LwK D nm i a1 a2 nd2 ad2 kc ks Q) : V D 140 (IL nm) 670 (lwL D a1 a2 i) [] (mun (MM nd c) (MR nd2 ad2 fi fa)) (kc + 3) (ks + 188) Q := by
  obtain ⟨hL, hR, h, ha, rfl, rfl⟩ := hS
  obtain ⟨r, e, fj, fb, hx, hy, hI⟩ := L_round hL hR h 
  refine V_kc (kc2 := kc) (ks2 := ks) (by omega) (by omega) ?_
  refine V_aload_n (pc2 := 671) dL_law_670 1 rfl rfl ?_
  refine V_c7 (pc2 := 674) [] (st := []) (tX7_round hx) ha (cls_at hL h) dL_law_671 wV_ParcelRingLaw_72 (by decide) rfl (Nat.le_of_ble_eq_true rfl) (fun ha1 => ?_)
  refine V_aload_n (pc2 := 675) dL_law_674 2 rfl rfl ?_
  refine V_c8 (pc2 := 678) [] (st := [.int r]) (tX8_round hy) ha1 (ref_at hR) dL_law_675 wV_ParcelRingLaw_76 (by decide) rfl (Nat.le_of_ble_eq_true rfl) (fun ha2 => ?_)
  refine V_icmp_eq (pc2 := 681) (tgt := 1563) dL_law_678 (fun _ => ?_) (fun z => absurd rfl z)
  exact hk nT nd ad e fj fb ⟨hL, hR, hI, ha2, rfl, rfl⟩
theorem LW_go (hS : LwS nT nd nd2 ad ad2 c fi fa a1 a2) (hi : i + 6 ≤ sN D) (hN : sN D ≤ 384) (hk : LwK D nm i a1 a2 nd2 ad2 kc ks Q) : V D 140 (IL nm) 683 (lwL D a1 a2 i) [] (mun (MM nd c) (MR nd2 ad2 fi fa)) (kc + 3) (ks + 188) Q := by
  obtain ⟨hL, hR, h, ha, rfl, rfl⟩ := hS
  obtain ⟨r, e, fj, fb, hx, hy, hI⟩ := L_go hL hR h (sX D (i + 1))
  have s1 : sld D (nI i + 1) = some (sX D (i + 1)) := sld_at (k := 1) (by omega) hN
  refine V_kc (kc2 := kc) (ks2 := ks) (by omega) (by omega) ?_
  refine V_aload_n (pc2 := 684) dL_law_683 1 rfl rfl ?_
  refine V_aload_n (pc2 := 685) dL_law_684 0 rfl rfl ?_
  refine V_iload_n (pc2 := 686) dL_law_685 3 rfl rfl ?_
  refine V_iconst (v := 1) (pc2 := 687) dL_law_686 (by decide) ?_
  refine V_iadd (pc2 := 688) dL_law_687 ?_
  refine V_sld (pc2 := 689) s1 dL_law_688 ?_
  refine V_c7 (pc2 := 692) [.int (sX D (i + 1))] (st := []) (tX7_go hx) ha (cls_at hL h) dL_law_689 wV_ParcelRingLaw_77 (by decide) rfl (Nat.le_of_ble_eq_true rfl) (fun ha1 => ?_)
  refine V_aload_n (pc2 := 693) dL_law_692 2 rfl rfl ?_
  refine V_aload_n (pc2 := 694) dL_law_693 0 rfl rfl ?_
  refine V_iload_n (pc2 := 695) dL_law_694 3 rfl rfl ?_
  refine V_iconst (v := 1) (pc2 := 696) dL_law_695 (by decide) ?_
  refine V_iadd (pc2 := 697) dL_law_696 ?_
  refine V_sld (pc2 := 698) s1 dL_law_697 ?_
  refine V_c8 (pc2 := 701) [.int (sX D (i + 1))] (st := [.int r]) (tX8_go hy) ha1 (ref_at hR) dL_law_698 wV_ParcelRingLaw_80 (by decide) rfl (Nat.le_of_ble_eq_true rfl) (fun ha2 => ?_)
  refine V_icmp_eq (pc2 := 704) (tgt := 1563) dL_law_701 (fun _ => ?_) (fun z => absurd rfl z)
  exact hk nT nd ad e fj fb ⟨hL, hR, hI, ha2, rfl, rfl⟩
theorem LW_odds (hS : LwS nT nd nd2 ad ad2 c fi fa a1 a2) (hi : i + 6 ≤ sN D) (hN : sN D ≤ 384) (hk : LwK D nm i a1 a2 nd2 ad2 kc ks Q) : V D 140 (IL nm) 706 (lwL D a1 a2 i) [] (mun (MM nd c) (MR nd2 ad2 fi fa)) (kc + 3) (ks + 188) Q := by
  obtain ⟨hL, hR, h, ha, rfl, rfl⟩ := hS
  obtain ⟨r, e, fj, fb, hx, hy, hI⟩ := L_odds hL hR h (sX D (i + 1))
  have s1 : sld D (nI i + 1) = some (sX D (i + 1)) := sld_at (k := 1) (by omega) hN
  refine V_kc (kc2 := kc) (ks2 := ks) (by omega) (by omega) ?_
  refine V_aload_n (pc2 := 707) dL_law_706 1 rfl rfl ?_
  refine V_aload_n (pc2 := 708) dL_law_707 0 rfl rfl ?_
  refine V_iload_n (pc2 := 709) dL_law_708 3 rfl rfl ?_
  refine V_iconst (v := 1) (pc2 := 710) dL_law_709 (by decide) ?_
  refine V_iadd (pc2 := 711) dL_law_710 ?_
  refine V_sld (pc2 := 712) s1 dL_law_711 ?_
  refine V_c7 (pc2 := 715) [.int (sX D (i + 1))] (st := []) (tX7_odds hx) ha (cls_at hL h) dL_law_712 wV_ParcelRingLaw_81 (by decide) rfl (Nat.le_of_ble_eq_true rfl) (fun ha1 => ?_)
  refine V_aload_n (pc2 := 716) dL_law_715 2 rfl rfl ?_
  refine V_aload_n (pc2 := 717) dL_law_716 0 rfl rfl ?_
  refine V_iload_n (pc2 := 718) dL_law_717 3 rfl rfl ?_
  refine V_iconst (v := 1) (pc2 := 719) dL_law_718 (by decide) ?_
  refine V_iadd (pc2 := 720) dL_law_719 ?_
  refine V_sld (pc2 := 721) s1 dL_law_720 ?_
  refine V_c8 (pc2 := 724) [.int (sX D (i + 1))] (st := [.int r]) (tX8_odds hy) ha1 (ref_at hR) dL_law_721 wV_ParcelRingLaw_84 (by decide) rfl (Nat.le_of_ble_eq_true rfl) (fun ha2 => ?_)
  refine V_icmp_eq (pc2 := 727) (tgt := 1563) dL_law_724 (fun _ => ?_) (fun z => absurd rfl z)
  exact hk nT nd ad e fj fb ⟨hL, hR, hI, ha2, rfl, rfl⟩
theorem LW_behind (hS : LwS nT nd nd2 ad ad2 c fi fa a1 a2) (hi : i + 6 ≤ sN D) (hN : sN D ≤ 384) (hk : LwK D nm i a1 a2 nd2 ad2 kc ks Q) : V D 140 (IL nm) 729 (lwL D a1 a2 i) [] (mun (MM nd c) (MR nd2 ad2 fi fa)) (kc + 3) (ks + 188) Q := by
  obtain ⟨hL, hR, h, ha, rfl, rfl⟩ := hS
  obtain ⟨r, e, fj, fb, hx, hy, hI⟩ := L_behind hL hR h (sX D (i + 1)) (sX D (i + 2))
  have s1 : sld D (nI i + 1) = some (sX D (i + 1)) := sld_at (k := 1) (by omega) hN
  have s2 : sld D (nI i + 2) = some (sX D (i + 2)) := sld_at (k := 2) (by omega) hN
  refine V_kc (kc2 := kc) (ks2 := ks) (by omega) (by omega) ?_
  refine V_aload_n (pc2 := 730) dL_law_729 1 rfl rfl ?_
  refine V_aload_n (pc2 := 731) dL_law_730 0 rfl rfl ?_
  refine V_iload_n (pc2 := 732) dL_law_731 3 rfl rfl ?_
  refine V_iconst (v := 1) (pc2 := 733) dL_law_732 (by decide) ?_
  refine V_iadd (pc2 := 734) dL_law_733 ?_
  refine V_sld (pc2 := 735) s1 dL_law_734 ?_
  refine V_aload_n (pc2 := 736) dL_law_735 0 rfl rfl ?_
  refine V_iload_n (pc2 := 737) dL_law_736 3 rfl rfl ?_
  refine V_iconst (v := 2) (pc2 := 738) dL_law_737 (by decide) ?_
  refine V_iadd (pc2 := 739) dL_law_738 ?_
  refine V_sld (pc2 := 740) s2 dL_law_739 ?_
  refine V_c7 (pc2 := 743) [.int (sX D (i + 1)), .int (sX D (i + 2))] (st := []) (tX7_behind hx) ha (cls_at hL h) dL_law_740 wV_ParcelRingLaw_85 (by decide) rfl (Nat.le_of_ble_eq_true rfl) (fun ha1 => ?_)
  refine V_aload_n (pc2 := 744) dL_law_743 2 rfl rfl ?_
  refine V_aload_n (pc2 := 745) dL_law_744 0 rfl rfl ?_
  refine V_iload_n (pc2 := 746) dL_law_745 3 rfl rfl ?_
  refine V_iconst (v := 1) (pc2 := 747) dL_law_746 (by decide) ?_
  refine V_iadd (pc2 := 748) dL_law_747 ?_
  refine V_sld (pc2 := 749) s1 dL_law_748 ?_
  refine V_aload_n (pc2 := 750) dL_law_749 0 rfl rfl ?_
  refine V_iload_n (pc2 := 751) dL_law_750 3 rfl rfl ?_
  refine V_iconst (v := 2) (pc2 := 752) dL_law_751 (by decide) ?_
  refine V_iadd (pc2 := 753) dL_law_752 ?_
  refine V_sld (pc2 := 754) s2 dL_law_753 ?_
  refine V_c8 (pc2 := 757) [.int (sX D (i + 1)), .int (sX D (i + 2))] (st := [.int r]) (tX8_behind hy) ha1 (ref_at hR) dL_law_754 wV_ParcelRingLaw_88 (by decide) rfl (Nat.le_of_ble_eq_true rfl) (fun ha2 => ?_)
  refine V_icmp_eq (pc2 := 760) (tgt := 1563) dL_law_757 (fun _ => ?_) (fun z => absurd rfl z)
  exact hk nT nd ad e fj fb ⟨hL, hR, hI, ha2, rfl, rfl⟩
theorem LW_had (hS : LwS nT nd nd2 ad ad2 c fi fa a1 a2) (hi : i + 6 ≤ sN D) (hN : sN D ≤ 384) (hk : LwK D nm i a1 a2 nd2 ad2 kc ks Q) : V D 140 (IL nm) 762 (lwL D a1 a2 i) [] (mun (MM nd c) (MR nd2 ad2 fi fa)) (kc + 3) (ks + 188) Q := by
  obtain ⟨hL, hR, h, ha, rfl, rfl⟩ := hS
  obtain ⟨r, e, fj, fb, hx, hy, hI⟩ := L_had hL hR h (sX D (i + 1)) (sX D (i + 2))
  have s1 : sld D (nI i + 1) = some (sX D (i + 1)) := sld_at (k := 1) (by omega) hN
  have s2 : sld D (nI i + 2) = some (sX D (i + 2)) := sld_at (k := 2) (by omega) hN
  refine V_kc (kc2 := kc) (ks2 := ks) (by omega) (by omega) ?_
  refine V_aload_n (pc2 := 763) dL_law_762 1 rfl rfl ?_
  refine V_aload_n (pc2 := 764) dL_law_763 0 rfl rfl ?_
  refine V_iload_n (pc2 := 765) dL_law_764 3 rfl rfl ?_
  refine V_iconst (v := 1) (pc2 := 766) dL_law_765 (by decide) ?_
  refine V_iadd (pc2 := 767) dL_law_766 ?_
  refine V_sld (pc2 := 768) s1 dL_law_767 ?_
  refine V_aload_n (pc2 := 769) dL_law_768 0 rfl rfl ?_
  refine V_iload_n (pc2 := 770) dL_law_769 3 rfl rfl ?_
  refine V_iconst (v := 2) (pc2 := 771) dL_law_770 (by decide) ?_
  refine V_iadd (pc2 := 772) dL_law_771 ?_
  refine V_sld (pc2 := 773) s2 dL_law_772 ?_
  refine V_c7 (pc2 := 776) [.int (sX D (i + 1)), .int (sX D (i + 2))] (st := []) (tX7_had hx) ha (cls_at hL h) dL_law_773 wV_ParcelRingLaw_89 (by decide) rfl (Nat.le_of_ble_eq_true rfl) (fun ha1 => ?_)
  refine V_aload_n (pc2 := 777) dL_law_776 2 rfl rfl ?_
  refine V_aload_n (pc2 := 778) dL_law_777 0 rfl rfl ?_
  refine V_iload_n (pc2 := 779) dL_law_778 3 rfl rfl ?_
  refine V_iconst (v := 1) (pc2 := 780) dL_law_779 (by decide) ?_
  refine V_iadd (pc2 := 781) dL_law_780 ?_
  refine V_sld (pc2 := 782) s1 dL_law_781 ?_
  refine V_aload_n (pc2 := 783) dL_law_782 0 rfl rfl ?_
  refine V_iload_n (pc2 := 784) dL_law_783 3 rfl rfl ?_
  refine V_iconst (v := 2) (pc2 := 785) dL_law_784 (by decide) ?_
  refine V_iadd (pc2 := 786) dL_law_785 ?_
  refine V_sld (pc2 := 787) s2 dL_law_786 ?_
  refine V_c8 (pc2 := 790) [.int (sX D (i + 1)), .int (sX D (i + 2))] (st := [.int r]) (tX8_had hy) ha1 (ref_at hR) dL_law_787 wV_ParcelRingLaw_92 (by decide) rfl (Nat.le_of_ble_eq_true rfl) (fun ha2 => ?_)
  refine V_icmp_eq (pc2 := 793) (tgt := 1563) dL_law_790 (fun _ => ?_) (fun z => absurd rfl z)
  exact hk nT nd ad e fj fb ⟨hL, hR, hI, ha2, rfl, rfl⟩
theorem LW_all (hS : LwS nT nd nd2 ad ad2 c fi fa a1 a2) (hi : i + 6 ≤ sN D) (hN : sN D ≤ 384) (hk : LwK D nm i a1 a2 nd2 ad2 kc ks Q) : V D 140 (IL nm) 795 (lwL D a1 a2 i) [] (mun (MM nd c) (MR nd2 ad2 fi fa)) (kc + 3) (ks + 188) Q := by
  obtain ⟨hL, hR, h, ha, rfl, rfl⟩ := hS
  obtain ⟨r, e, fj, fb, hx, hy, hI⟩ := L_all hL hR h 
  refine V_kc (kc2 := kc) (ks2 := ks) (by omega) (by omega) ?_
  refine V_aload_n (pc2 := 796) dL_law_795 1 rfl rfl ?_
  refine V_c7 (pc2 := 799) [] (st := []) (tX7_all hx) ha (cls_at hL h) dL_law_796 wV_ParcelRingLaw_93 (by decide) rfl (Nat.le_of_ble_eq_true rfl) (fun ha1 => ?_)
  refine V_aload_n (pc2 := 800) dL_law_799 2 rfl rfl ?_
  refine V_c8 (pc2 := 803) [] (st := [.int r]) (tX8_all hy) ha1 (ref_at hR) dL_law_800 wV_ParcelRingLaw_96 (by decide) rfl (Nat.le_of_ble_eq_true rfl) (fun ha2 => ?_)
  refine V_icmp_eq (pc2 := 806) (tgt := 1563) dL_law_803 (fun _ => ?_) (fun z => absurd rfl z)
  exact hk nT nd ad e fj fb ⟨hL, hR, hI, ha2, rfl, rfl⟩
theorem LW_evens (hS : LwS nT nd nd2 ad ad2 c fi fa a1 a2) (hi : i + 6 ≤ sN D) (hN : sN D ≤ 384) (hk : LwK D nm i a1 a2 nd2 ad2 kc ks Q) : V D 140 (IL nm) 808 (lwL D a1 a2 i) [] (mun (MM nd c) (MR nd2 ad2 fi fa)) (kc + 3) (ks + 188) Q := by
  obtain ⟨hL, hR, h, ha, rfl, rfl⟩ := hS
  obtain ⟨r, e, fj, fb, hx, hy, hI⟩ := L_evens hL hR h (sX D (i + 1))
  have s1 : sld D (nI i + 1) = some (sX D (i + 1)) := sld_at (k := 1) (by omega) hN
  refine V_kc (kc2 := kc) (ks2 := ks) (by omega) (by omega) ?_
  refine V_aload_n (pc2 := 809) dL_law_808 1 rfl rfl ?_
  refine V_aload_n (pc2 := 810) dL_law_809 0 rfl rfl ?_
  refine V_iload_n (pc2 := 811) dL_law_810 3 rfl rfl ?_
  refine V_iconst (v := 1) (pc2 := 812) dL_law_811 (by decide) ?_
  refine V_iadd (pc2 := 813) dL_law_812 ?_
  refine V_sld (pc2 := 814) s1 dL_law_813 ?_
  refine V_c7 (pc2 := 817) [.int (sX D (i + 1))] (st := []) (tX7_evens hx) ha (cls_at hL h) dL_law_814 wV_ParcelRingLaw_97 (by decide) rfl (Nat.le_of_ble_eq_true rfl) (fun ha1 => ?_)
  refine V_aload_n (pc2 := 818) dL_law_817 2 rfl rfl ?_
  refine V_aload_n (pc2 := 819) dL_law_818 0 rfl rfl ?_
  refine V_iload_n (pc2 := 820) dL_law_819 3 rfl rfl ?_
  refine V_iconst (v := 1) (pc2 := 821) dL_law_820 (by decide) ?_
  refine V_iadd (pc2 := 822) dL_law_821 ?_
  refine V_sld (pc2 := 823) s1 dL_law_822 ?_
  refine V_c8 (pc2 := 826) [.int (sX D (i + 1))] (st := [.int r]) (tX8_evens hy) ha1 (ref_at hR) dL_law_823 wV_ParcelRingLaw_100 (by decide) rfl (Nat.le_of_ble_eq_true rfl) (fun ha2 => ?_)
  refine V_icmp_eq (pc2 := 829) (tgt := 1563) dL_law_826 (fun _ => ?_) (fun z => absurd rfl z)
  exact hk nT nd ad e fj fb ⟨hL, hR, hI, ha2, rfl, rfl⟩
theorem LW_steer (hS : LwS nT nd nd2 ad ad2 c fi fa a1 a2) (hi : i + 6 ≤ sN D) (hN : sN D ≤ 384) (hk : LwK D nm i a1 a2 nd2 ad2 kc ks Q) : V D 140 (IL nm) 831 (lwL D a1 a2 i) [] (mun (MM nd c) (MR nd2 ad2 fi fa)) (kc + 3) (ks + 188) Q := by
  obtain ⟨hL, hR, h, ha, rfl, rfl⟩ := hS
  obtain ⟨r, e, fj, fb, hx, hy, hI⟩ := L_steer hL hR h (sX D (i + 1)) (sX D (i + 2))
  have s1 : sld D (nI i + 1) = some (sX D (i + 1)) := sld_at (k := 1) (by omega) hN
  have s2 : sld D (nI i + 2) = some (sX D (i + 2)) := sld_at (k := 2) (by omega) hN
  refine V_kc (kc2 := kc) (ks2 := ks) (by omega) (by omega) ?_
  refine V_aload_n (pc2 := 832) dL_law_831 1 rfl rfl ?_
  refine V_aload_n (pc2 := 833) dL_law_832 0 rfl rfl ?_
  refine V_iload_n (pc2 := 834) dL_law_833 3 rfl rfl ?_
  refine V_iconst (v := 1) (pc2 := 835) dL_law_834 (by decide) ?_
  refine V_iadd (pc2 := 836) dL_law_835 ?_
  refine V_sld (pc2 := 837) s1 dL_law_836 ?_
  refine V_aload_n (pc2 := 838) dL_law_837 0 rfl rfl ?_
  refine V_iload_n (pc2 := 839) dL_law_838 3 rfl rfl ?_
  refine V_iconst (v := 2) (pc2 := 840) dL_law_839 (by decide) ?_
  refine V_iadd (pc2 := 841) dL_law_840 ?_
  refine V_sld (pc2 := 842) s2 dL_law_841 ?_
  refine V_c7 (pc2 := 845) [.int (sX D (i + 1)), .int (sX D (i + 2))] (st := []) (tX7_steer hx) ha (cls_at hL h) dL_law_842 wV_ParcelRingLaw_101 (by decide) rfl (Nat.le_of_ble_eq_true rfl) (fun ha1 => ?_)
  refine V_aload_n (pc2 := 846) dL_law_845 2 rfl rfl ?_
  refine V_aload_n (pc2 := 847) dL_law_846 0 rfl rfl ?_
  refine V_iload_n (pc2 := 848) dL_law_847 3 rfl rfl ?_
  refine V_iconst (v := 1) (pc2 := 849) dL_law_848 (by decide) ?_
  refine V_iadd (pc2 := 850) dL_law_849 ?_
  refine V_sld (pc2 := 851) s1 dL_law_850 ?_
  refine V_aload_n (pc2 := 852) dL_law_851 0 rfl rfl ?_
  refine V_iload_n (pc2 := 853) dL_law_852 3 rfl rfl ?_
  refine V_iconst (v := 2) (pc2 := 854) dL_law_853 (by decide) ?_
  refine V_iadd (pc2 := 855) dL_law_854 ?_
  refine V_sld (pc2 := 856) s2 dL_law_855 ?_
  refine V_c8 (pc2 := 859) [.int (sX D (i + 1)), .int (sX D (i + 2))] (st := [.int r]) (tX8_steer hy) ha1 (ref_at hR) dL_law_856 wV_ParcelRingLaw_104 (by decide) rfl (Nat.le_of_ble_eq_true rfl) (fun ha2 => ?_)
  refine V_icmp_eq (pc2 := 862) (tgt := 1563) dL_law_859 (fun _ => ?_) (fun z => absurd rfl z)
  exact hk nT nd ad e fj fb ⟨hL, hR, hI, ha2, rfl, rfl⟩
end LWS
