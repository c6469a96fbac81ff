theorem lw_cmp (x : Int64) : lg_cmp x x = 0 := by
  unfold lg_cmp
  by_cases h : x > x
  · exact absurd h (by simp)
  · rw [if_neg h, if_pos rfl]
theorem dL_law_287 : decode code 287 = .ok (.aload_n 1, 1) := by decide +kernel
theorem dL_law_288 : decode code 288 = .ok (.invokevirtual 41, 3) := by decide +kernel
theorem dL_law_291 : decode code 291 = .ok (.aload_n 2, 1) := by decide +kernel
theorem dL_law_292 : decode code 292 = .ok (.invokevirtual 44, 3) := by decide +kernel
theorem dL_law_295 : decode code 295 = .ok (.if_icmp .eq 1433, 3) := by decide +kernel
theorem LC_3 {κ : Nat → Nat → List Value → List Value → m2M → Prop} {mx D L n i : Nat} {xs : Nat → Int32} {μ : m2M} (h : m2_LW κ mx (D + 1) L xs) (hn : n < mx) (hi : i + 7 ≤ L) (hL : L ≤ 3584) (hD : 420 ≤ D) (hR : REL μ) (k : ∀ μ', REL μ' → κ n 1728 [.ref 1002, .ref kC, .ref kM, .ref kOut, .int (nI i), .null, .null, .null] [] μ') : κ n 287 [.ref 1002, .ref kC, .ref kM, .ref kOut, .int (nI i), .null, .null, .null] [] μ := by
  have hB := h.b (Nat.le_of_lt hn)
  refine m2_aload_n hB dL_law_287 rfl ?_
  refine m2_invs (h.bs (Nat.le_of_lt hn)) (as := []) (st := []) dL_law_288 mv_L_41 rfl sh_kC rfl (by decide) rfl (T_price (by omega) μ hR) (fun r μ1 hr hM => ?_)
  obtain ⟨y, rfl⟩ := hr
  refine m2_aload_n hB dL_law_291 rfl ?_
  refine m2_inv hB (as := []) (st := [.int y]) dL_law_292 mv_L_44 rfl sh_kM rfl (ble rfl) rfl hM (fun r2 μ2 hr2 hq => ?_)
  obtain ⟨rfl, hR2⟩ := hq
  exact m2_icmp_eq hB dL_law_295 (tgt := 1728) (by decide) (fun _ => k μ2 hR2) (fun q => absurd rfl q)
theorem dL_law_300 : decode code 300 = .ok (.aload_n 1, 1) := by decide +kernel
theorem dL_law_301 : decode code 301 = .ok (.aload_n 0, 1) := by decide +kernel
theorem dL_law_302 : decode code 302 = .ok (.iload 4, 2) := by decide +kernel
theorem dL_law_304 : decode code 304 = .ok (.iconst 1, 1) := by decide +kernel
theorem dL_law_305 : decode code 305 = .ok (.iadd, 1) := by decide +kernel
theorem dL_law_306 : decode code 306 = .ok (.iaload, 1) := by decide +kernel
theorem dL_law_307 : decode code 307 = .ok (.aload_n 0, 1) := by decide +kernel
theorem dL_law_308 : decode code 308 = .ok (.iload 4, 2) := by decide +kernel
theorem dL_law_310 : decode code 310 = .ok (.iconst 2, 1) := by decide +kernel
theorem dL_law_311 : decode code 311 = .ok (.iadd, 1) := by decide +kernel
theorem dL_law_312 : decode code 312 = .ok (.iaload, 1) := by decide +kernel
theorem dL_law_313 : decode code 313 = .ok (.aload_n 3, 1) := by decide +kernel
theorem dL_law_314 : decode code 314 = .ok (.invokestatic 45, 3) := by decide +kernel
theorem dL_law_317 : decode code 317 = .ok (.istore 5, 2) := by decide +kernel
theorem dL_law_319 : decode code 319 = .ok (.aload_n 2, 1) := by decide +kernel
theorem dL_law_320 : decode code 320 = .ok (.aload_n 0, 1) := by decide +kernel
theorem dL_law_321 : decode code 321 = .ok (.iload 4, 2) := by decide +kernel
theorem dL_law_323 : decode code 323 = .ok (.iconst 1, 1) := by decide +kernel
theorem dL_law_324 : decode code 324 = .ok (.iadd, 1) := by decide +kernel
theorem dL_law_325 : decode code 325 = .ok (.iaload, 1) := by decide +kernel
theorem dL_law_326 : decode code 326 = .ok (.aload_n 0, 1) := by decide +kernel
theorem dL_law_327 : decode code 327 = .ok (.iload 4, 2) := by decide +kernel
theorem dL_law_329 : decode code 329 = .ok (.iconst 2, 1) := by decide +kernel
theorem dL_law_330 : decode code 330 = .ok (.iadd, 1) := by decide +kernel
theorem dL_law_331 : decode code 331 = .ok (.iaload, 1) := by decide +kernel
theorem dL_law_332 : decode code 332 = .ok (.invokevirtual 50, 3) := by decide +kernel
theorem dL_law_335 : decode code 335 = .ok (.istore 6, 2) := by decide +kernel
theorem dL_law_337 : decode code 337 = .ok (.aload_n 2, 1) := by decide +kernel
theorem dL_law_338 : decode code 338 = .ok (.invokevirtual 51, 3) := by decide +kernel
theorem dL_law_341 : decode code 341 = .ok (.iload 5, 2) := by decide +kernel
theorem dL_law_343 : decode code 343 = .ok (.if_icmp .eq 5, 3) := by decide +kernel
theorem dL_law_348 : decode code 348 = .ok (.iload 5, 2) := by decide +kernel
theorem dL_law_350 : decode code 350 = .ok (.ifCond .ne 15, 3) := by decide +kernel
theorem dL_law_353 : decode code 353 = .ok (.aload_n 3, 1) := by decide +kernel
theorem dL_law_354 : decode code 354 = .ok (.iconst 0, 1) := by decide +kernel
theorem dL_law_355 : decode code 355 = .ok (.laload, 1) := by decide +kernel
theorem dL_law_356 : decode code 356 = .ok (.iload 6, 2) := by decide +kernel
theorem dL_law_358 : decode code 358 = .ok (.i2l, 1) := by decide +kernel
theorem dL_law_359 : decode code 359 = .ok (.lcmp, 1) := by decide +kernel
theorem dL_law_360 : decode code 360 = .ok (.ifCond .eq 5, 3) := by decide +kernel
theorem dL_law_365 : decode code 365 = .ok (.goto 1363, 3) := by decide +kernel
theorem LC_4 {κ : Nat → Nat → List Value → List Value → m2M → Prop} {mx D L n i : Nat} {xs : Nat → Int32} {μ : m2M} (h : m2_LW κ mx (D + 1) L xs) (hn : n < mx) (hi : i + 7 ≤ L) (hL : L ≤ 3584) (hD : 420 ≤ D) (hR : REL μ) (k : ∀ μ', REL μ' → κ (n + 1) 1728 [.ref 1002, .ref kC, .ref kM, .ref kOut, .int (nI i), .null, .null, .null] [] μ') : κ n 300 [.ref 1002, .ref kC, .ref kM, .ref kOut, .int (nI i), .null, .null, .null] [] μ := by
  have hB := h.b (Nat.le_of_lt hn)
  refine m2_aload_n hB dL_law_300 rfl ?_
  refine m2_aload_n hB dL_law_301 rfl ?_
  refine m2_iload hB dL_law_302 rfl ?_
  refine m2_iconst hB dL_law_304 (v := 1) (by decide) ?_
  refine m2_iadd hB dL_law_305 ?_
  refine h.ld (lw_in hi hL (show 1 < 7 by decide)) dL_law_306 ?_
  refine m2_aload_n hB dL_law_307 rfl ?_
  refine m2_iload hB dL_law_308 rfl ?_
  refine m2_iconst hB dL_law_310 (v := 2) (by decide) ?_
  refine m2_iadd hB dL_law_311 ?_
  refine h.ld (lw_in hi hL (show 2 < 7 by decide)) dL_law_312 ?_
  refine m2_aload_n hB dL_law_313 rfl ?_
  refine m2_invY (h.bb hn) (as := [.ref kC, .int (xs (nI i + 1).toNatClampNeg), .int (xs (nI i + 2).toNatClampNeg), .ref kOut]) (st := []) dL_law_314 ly_door rfl (by decide) rfl (T_door (by omega) _ _ μ hR) (fun r μ1 hr hM => ?_)
  obtain ⟨c1, hc01, rfl, hM⟩ := hM
  have hB' := h.b (n := n + 1) hn
  refine m2_istore hB' (ls' := [.ref 1002, .ref kC, .ref kM, .ref kOut, .int (nI i), .int c1, .null, .null]) dL_law_317 (by decide) rfl ?_
  refine m2_aload_n hB' dL_law_319 rfl ?_
  refine m2_aload_n hB' dL_law_320 rfl ?_
  refine m2_iload hB' dL_law_321 rfl ?_
  refine m2_iconst hB' dL_law_323 (v := 1) (by decide) ?_
  refine m2_iadd hB' dL_law_324 ?_
  refine h.ld (lw_in hi hL (show 1 < 7 by decide)) dL_law_325 ?_
  refine m2_aload_n hB' dL_law_326 rfl ?_
  refine m2_iload hB' dL_law_327 rfl ?_
  refine m2_iconst hB' dL_law_329 (v := 2) (by decide) ?_
  refine m2_iadd hB' dL_law_330 ?_
  refine h.ld (lw_in hi hL (show 2 < 7 by decide)) dL_law_331 ?_
  refine m2_inv hB' (as := [.int (xs (nI i + 1).toNatClampNeg), .int (xs (nI i + 2).toNatClampNeg)]) (st := []) dL_law_332 mv_L_50 rfl sh_kM rfl (by decide) rfl hM (fun r2 μ2 hr2 hq => ?_)
  obtain ⟨b, rfl⟩ := hr2
  obtain ⟨hR2, h22, hout⟩ := hq
  refine m2_istore hB' (ls' := [.ref 1002, .ref kC, .ref kM, .ref kOut, .int (nI i), .int c1, .int b, .null]) dL_law_335 (by decide) rfl ?_
  refine m2_aload_n hB' dL_law_337 rfl ?_
  refine m2_inv hB' (as := []) (st := []) dL_law_338 mv_L_51 rfl sh_kM rfl (by decide) rfl (P_X12_thrown (Nat.zero_le _) μ2) (fun r3 μ3 hr3 hq3 => ?_)
  obtain ⟨rfl, rfl⟩ := hq3
  refine m2_iload hB' dL_law_341 rfl ?_
  refine m2_icmp_eq hB' dL_law_343 (tgt := 348) (by decide) (fun _ => ?_) (fun q => absurd h22 q)
  refine m2_iload hB' dL_law_348 rfl ?_
  refine m2_if_ne hB' dL_law_350 (tgt := 365) (by decide) (fun _ => m2_goto hB' dL_law_365 (tgt := 1728) (by decide) (m2_weak (ls' := [.ref 1002, .ref kC, .ref kM, .ref kOut, .int (nI i), .null, .null, .null]) hB' ⟨Or.inr rfl, Or.inr rfl, Or.inr rfl, Or.inr rfl, Or.inr rfl, Or.inl rfl, Or.inl rfl, Or.inl rfl, trivial⟩ (k _ hR2))) (fun q0 => ?_)
  refine m2_aload_n hB' dL_law_353 rfl ?_
  refine m2_iconst hB' dL_law_354 (v := 0) (by decide) ?_
  refine m2_lald hB' dL_law_355 sh_kOut (by unfold vp_in; decide) ?_
  refine m2_iload hB' dL_law_356 rfl ?_
  refine m2_i2l hB' dL_law_358 ?_
  refine m2_lcmp hB' dL_law_359 ?_
  have ho : μ3.2 kOut (0 : Int32).toNatClampNeg = b.toInt64 := by
    rcases hout q0 with z | ⟨b2, z, z2⟩
    · cases z
    · have e := Value.int.inj (Option.some.inj z)
      rw [e]
      exact z2
  rw [ho, lw_cmp]
  exact m2_if_eq hB' dL_law_360 (tgt := 365) (by decide) (fun _ => m2_goto hB' dL_law_365 (tgt := 1728) (by decide) (m2_weak (ls' := [.ref 1002, .ref kC, .ref kM, .ref kOut, .int (nI i), .null, .null, .null]) hB' ⟨Or.inr rfl, Or.inr rfl, Or.inr rfl, Or.inr rfl, Or.inr rfl, Or.inl rfl, Or.inl rfl, Or.inl rfl, trivial⟩ (k _ hR2))) (fun q => absurd rfl q)
theorem dL_law_368 : decode code 368 = .ok (.aload_n 1, 1) := by decide +kernel
theorem dL_law_369 : decode code 369 = .ok (.aload_n 0, 1) := by decide +kernel
theorem dL_law_370 : decode code 370 = .ok (.iload 4, 2) := by decide +kernel
theorem dL_law_372 : decode code 372 = .ok (.iconst 1, 1) := by decide +kernel
theorem dL_law_373 : decode code 373 = .ok (.iadd, 1) := by decide +kernel
theorem dL_law_374 : decode code 374 = .ok (.iaload, 1) := by decide +kernel
theorem dL_law_375 : decode code 375 = .ok (.aload_n 0, 1) := by decide +kernel
theorem dL_law_376 : decode code 376 = .ok (.iload 4, 2) := by decide +kernel
theorem dL_law_378 : decode code 378 = .ok (.iconst 2, 1) := by decide +kernel
theorem dL_law_379 : decode code 379 = .ok (.iadd, 1) := by decide +kernel
theorem dL_law_380 : decode code 380 = .ok (.iaload, 1) := by decide +kernel
theorem dL_law_381 : decode code 381 = .ok (.aload_n 3, 1) := by decide +kernel
theorem dL_law_382 : decode code 382 = .ok (.invokestatic 54, 3) := by decide +kernel
theorem dL_law_385 : decode code 385 = .ok (.istore 5, 2) := by decide +kernel
theorem dL_law_387 : decode code 387 = .ok (.aload_n 2, 1) := by decide +kernel
theorem dL_law_388 : decode code 388 = .ok (.aload_n 0, 1) := by decide +kernel
theorem dL_law_389 : decode code 389 = .ok (.iload 4, 2) := by decide +kernel
theorem dL_law_391 : decode code 391 = .ok (.iconst 1, 1) := by decide +kernel
theorem dL_law_392 : decode code 392 = .ok (.iadd, 1) := by decide +kernel
theorem dL_law_393 : decode code 393 = .ok (.iaload, 1) := by decide +kernel
theorem dL_law_394 : decode code 394 = .ok (.aload_n 0, 1) := by decide +kernel
theorem dL_law_395 : decode code 395 = .ok (.iload 4, 2) := by decide +kernel
theorem dL_law_397 : decode code 397 = .ok (.iconst 2, 1) := by decide +kernel
theorem dL_law_398 : decode code 398 = .ok (.iadd, 1) := by decide +kernel
theorem dL_law_399 : decode code 399 = .ok (.iaload, 1) := by decide +kernel
theorem dL_law_400 : decode code 400 = .ok (.invokevirtual 56, 3) := by decide +kernel
theorem dL_law_403 : decode code 403 = .ok (.istore 6, 2) := by decide +kernel
theorem dL_law_405 : decode code 405 = .ok (.aload_n 2, 1) := by decide +kernel
theorem dL_law_406 : decode code 406 = .ok (.invokevirtual 51, 3) := by decide +kernel
theorem dL_law_409 : decode code 409 = .ok (.iload 5, 2) := by decide +kernel
theorem dL_law_411 : decode code 411 = .ok (.if_icmp .eq 5, 3) := by decide +kernel
theorem dL_law_416 : decode code 416 = .ok (.iload 5, 2) := by decide +kernel
theorem dL_law_418 : decode code 418 = .ok (.ifCond .ne 15, 3) := by decide +kernel
theorem dL_law_421 : decode code 421 = .ok (.aload_n 3, 1) := by decide +kernel
theorem dL_law_422 : decode code 422 = .ok (.iconst 0, 1) := by decide +kernel
theorem dL_law_423 : decode code 423 = .ok (.laload, 1) := by decide +kernel
theorem dL_law_424 : decode code 424 = .ok (.iload 6, 2) := by decide +kernel
theorem dL_law_426 : decode code 426 = .ok (.i2l, 1) := by decide +kernel
theorem dL_law_427 : decode code 427 = .ok (.lcmp, 1) := by decide +kernel
theorem dL_law_428 : decode code 428 = .ok (.ifCond .eq 5, 3) := by decide +kernel
theorem dL_law_433 : decode code 433 = .ok (.goto 1295, 3) := by decide +kernel
theorem LC_5 {κ : Nat → Nat → List Value → List Value → m2M → Prop} {mx D L n i : Nat} {xs : Nat → Int32} {μ : m2M} (h : m2_LW κ mx (D + 1) L xs) (hn : n < mx) (hi : i + 7 ≤ L) (hL : L ≤ 3584) (hD : 420 ≤ D) (hR : REL μ) (k : ∀ μ', REL μ' → κ (n + 1) 1728 [.ref 1002, .ref kC, .ref kM, .ref kOut, .int (nI i), .null, .null, .null] [] μ') : κ n 368 [.ref 1002, .ref kC, .ref kM, .ref kOut, .int (nI i), .null, .null, .null] [] μ := by
  have hB := h.b (Nat.le_of_lt hn)
  refine m2_aload_n hB dL_law_368 rfl ?_
  refine m2_aload_n hB dL_law_369 rfl ?_
  refine m2_iload hB dL_law_370 rfl ?_
  refine m2_iconst hB dL_law_372 (v := 1) (by decide) ?_
  refine m2_iadd hB dL_law_373 ?_
  refine h.ld (lw_in hi hL (show 1 < 7 by decide)) dL_law_374 ?_
  refine m2_aload_n hB dL_law_375 rfl ?_
  refine m2_iload hB dL_law_376 rfl ?_
  refine m2_iconst hB dL_law_378 (v := 2) (by decide) ?_
  refine m2_iadd hB dL_law_379 ?_
  refine h.ld (lw_in hi hL (show 2 < 7 by decide)) dL_law_380 ?_
  refine m2_aload_n hB dL_law_381 rfl ?_
  refine m2_invY (h.bb hn) (as := [.ref kC, .int (xs (nI i + 1).toNatClampNeg), .int (xs (nI i + 2).toNatClampNeg), .ref kOut]) (st := []) dL_law_382 ly_of rfl (by decide) rfl (T_ofp (by omega) _ _ μ hR) (fun r μ1 hr hM => ?_)
  obtain ⟨c1, hc01, rfl, hM⟩ := hM
  have hB' := h.b (n := n + 1) hn
  refine m2_istore hB' (ls' := [.ref 1002, .ref kC, .ref kM, .ref kOut, .int (nI i), .int c1, .null, .null]) dL_law_385 (by decide) rfl ?_
  refine m2_aload_n hB' dL_law_387 rfl ?_
  refine m2_aload_n hB' dL_law_388 rfl ?_
  refine m2_iload hB' dL_law_389 rfl ?_
  refine m2_iconst hB' dL_law_391 (v := 1) (by decide) ?_
  refine m2_iadd hB' dL_law_392 ?_
  refine h.ld (lw_in hi hL (show 1 < 7 by decide)) dL_law_393 ?_
  refine m2_aload_n hB' dL_law_394 rfl ?_
  refine m2_iload hB' dL_law_395 rfl ?_
  refine m2_iconst hB' dL_law_397 (v := 2) (by decide) ?_
  refine m2_iadd hB' dL_law_398 ?_
  refine h.ld (lw_in hi hL (show 2 < 7 by decide)) dL_law_399 ?_
  refine m2_inv hB' (as := [.int (xs (nI i + 1).toNatClampNeg), .int (xs (nI i + 2).toNatClampNeg)]) (st := []) dL_law_400 mv_L_56 rfl sh_kM rfl (by decide) rfl hM (fun r2 μ2 hr2 hq => ?_)
  obtain ⟨b, rfl⟩ := hr2
  obtain ⟨hR2, h22, hout⟩ := hq
  refine m2_istore hB' (ls' := [.ref 1002, .ref kC, .ref kM, .ref kOut, .int (nI i), .int c1, .int b, .null]) dL_law_403 (by decide) rfl ?_
  refine m2_aload_n hB' dL_law_405 rfl ?_
  refine m2_inv hB' (as := []) (st := []) dL_law_406 mv_L_51 rfl sh_kM rfl (by decide) rfl (P_X12_thrown (Nat.zero_le _) μ2) (fun r3 μ3 hr3 hq3 => ?_)
  obtain ⟨rfl, rfl⟩ := hq3
  refine m2_iload hB' dL_law_409 rfl ?_
  refine m2_icmp_eq hB' dL_law_411 (tgt := 416) (by decide) (fun _ => ?_) (fun q => absurd h22 q)
  refine m2_iload hB' dL_law_416 rfl ?_
  refine m2_if_ne hB' dL_law_418 (tgt := 433) (by decide) (fun _ => m2_goto hB' dL_law_433 (tgt := 1728) (by decide) (m2_weak (ls' := [.ref 1002, .ref kC, .ref kM, .ref kOut, .int (nI i), .null, .null, .null]) hB' ⟨Or.inr rfl, Or.inr rfl, Or.inr rfl, Or.inr rfl, Or.inr rfl, Or.inl rfl, Or.inl rfl, Or.inl rfl, trivial⟩ (k _ hR2))) (fun q0 => ?_)
  refine m2_aload_n hB' dL_law_421 rfl ?_
  refine m2_iconst hB' dL_law_422 (v := 0) (by decide) ?_
  refine m2_lald hB' dL_law_423 sh_kOut (by unfold vp_in; decide) ?_
  refine m2_iload hB' dL_law_424 rfl ?_
  refine m2_i2l hB' dL_law_426 ?_
  refine m2_lcmp hB' dL_law_427 ?_
  have ho : μ3.2 kOut (0 : Int32).toNatClampNeg = b.toInt64 := by
    rcases hout q0 with z | ⟨b2, z, z2⟩
    · cases z
    · have e := Value.int.inj (Option.some.inj z)
      rw [e]
      exact z2
  rw [ho, lw_cmp]
  exact m2_if_eq hB' dL_law_428 (tgt := 433) (by decide) (fun _ => m2_goto hB' dL_law_433 (tgt := 1728) (by decide) (m2_weak (ls' := [.ref 1002, .ref kC, .ref kM, .ref kOut, .int (nI i), .null, .null, .null]) hB' ⟨Or.inr rfl, Or.inr rfl, Or.inr rfl, Or.inr rfl, Or.inr rfl, Or.inl rfl, Or.inl rfl, Or.inl rfl, trivial⟩ (k _ hR2))) (fun q => absurd rfl q)
theorem dL_law_1673 : decode code 1673 = .ok (.aload_n 1, 1) := by decide +kernel
theorem dL_law_1674 : decode code 1674 = .ok (.aload_n 0, 1) := by decide +kernel
theorem dL_law_1675 : decode code 1675 = .ok (.iload 4, 2) := by decide +kernel
theorem dL_law_1677 : decode code 1677 = .ok (.iconst 1, 1) := by decide +kernel
theorem dL_law_1678 : decode code 1678 = .ok (.iadd, 1) := by decide +kernel
theorem dL_law_1679 : decode code 1679 = .ok (.iaload, 1) := by decide +kernel
theorem dL_law_1680 : decode code 1680 = .ok (.aload_n 3, 1) := by decide +kernel
theorem dL_law_1681 : decode code 1681 = .ok (.invokestatic 200, 3) := by decide +kernel
theorem dL_law_1684 : decode code 1684 = .ok (.istore 5, 2) := by decide +kernel
theorem dL_law_1686 : decode code 1686 = .ok (.aload_n 2, 1) := by decide +kernel
theorem dL_law_1687 : decode code 1687 = .ok (.aload_n 0, 1) := by decide +kernel
theorem dL_law_1688 : decode code 1688 = .ok (.iload 4, 2) := by decide +kernel
theorem dL_law_1690 : decode code 1690 = .ok (.iconst 1, 1) := by decide +kernel
theorem dL_law_1691 : decode code 1691 = .ok (.iadd, 1) := by decide +kernel
theorem dL_law_1692 : decode code 1692 = .ok (.iaload, 1) := by decide +kernel
theorem dL_law_1693 : decode code 1693 = .ok (.invokevirtual 203, 3) := by decide +kernel
theorem dL_law_1696 : decode code 1696 = .ok (.lstore 6, 2) := by decide +kernel
theorem dL_law_1698 : decode code 1698 = .ok (.aload_n 2, 1) := by decide +kernel
theorem dL_law_1699 : decode code 1699 = .ok (.invokevirtual 51, 3) := by decide +kernel
theorem dL_law_1702 : decode code 1702 = .ok (.iload 5, 2) := by decide +kernel
theorem dL_law_1704 : decode code 1704 = .ok (.if_icmp .eq 5, 3) := by decide +kernel
theorem dL_law_1709 : decode code 1709 = .ok (.iload 5, 2) := by decide +kernel
theorem dL_law_1711 : decode code 1711 = .ok (.ifCond .ne 14, 3) := by decide +kernel
theorem dL_law_1714 : decode code 1714 = .ok (.aload_n 3, 1) := by decide +kernel
theorem dL_law_1715 : decode code 1715 = .ok (.iconst 0, 1) := by decide +kernel
theorem dL_law_1716 : decode code 1716 = .ok (.laload, 1) := by decide +kernel
theorem dL_law_1717 : decode code 1717 = .ok (.lload 6, 2) := by decide +kernel
theorem dL_law_1719 : decode code 1719 = .ok (.lcmp, 1) := by decide +kernel
theorem dL_law_1720 : decode code 1720 = .ok (.ifCond .eq 5, 3) := by decide +kernel
theorem dL_law_1725 : decode code 1725 = .ok (.goto 3, 3) := by decide +kernel
theorem LC_41 {κ : Nat → Nat → List Value → List Value → m2M → Prop} {mx D L n i : Nat} {xs : Nat → Int32} {μ : m2M} (h : m2_LW κ mx (D + 1) L xs) (hn : n < mx) (hi : i + 7 ≤ L) (hL : L ≤ 3584) (hD : 420 ≤ D) (hR : REL μ) (k : ∀ μ', REL μ' → κ (n + 1) 1728 [.ref 1002, .ref kC, .ref kM, .ref kOut, .int (nI i), .null, .null, .null] [] μ') : κ n 1673 [.ref 1002, .ref kC, .ref kM, .ref kOut, .int (nI i), .null, .null, .null] [] μ := by
  have hB := h.b (Nat.le_of_lt hn)
  refine m2_aload_n hB dL_law_1673 rfl ?_
  refine m2_aload_n hB dL_law_1674 rfl ?_
  refine m2_iload hB dL_law_1675 rfl ?_
  refine m2_iconst hB dL_law_1677 (v := 1) (by decide) ?_
  refine m2_iadd hB dL_law_1678 ?_
  refine h.ld (lw_in hi hL (show 1 < 7 by decide)) dL_law_1679 ?_
  refine m2_aload_n hB dL_law_1680 rfl ?_
  refine m2_invY (h.bb hn) (as := [.ref kC, .int (xs (nI i + 1).toNatClampNeg), .ref kOut]) (st := []) dL_law_1681 ly_row rfl (by decide) rfl (T_row (by omega) _ μ hR) (fun r μ1 hr hM => ?_)
  obtain ⟨c1, hc01, rfl, hM⟩ := hM
  have hB' := h.b (n := n + 1) hn
  refine m2_istore hB' (ls' := [.ref 1002, .ref kC, .ref kM, .ref kOut, .int (nI i), .int c1, .null, .null]) dL_law_1684 (by decide) rfl ?_
  refine m2_aload_n hB' dL_law_1686 rfl ?_
  refine m2_aload_n hB' dL_law_1687 rfl ?_
  refine m2_iload hB' dL_law_1688 rfl ?_
  refine m2_iconst hB' dL_law_1690 (v := 1) (by decide) ?_
  refine m2_iadd hB' dL_law_1691 ?_
  refine h.ld (lw_in hi hL (show 1 < 7 by decide)) dL_law_1692 ?_
  refine m2_inv hB' (as := [.int (xs (nI i + 1).toNatClampNeg)]) (st := []) dL_law_1693 mv_L_203 rfl sh_kM rfl (by decide) rfl hM (fun r2 μ2 hr2 hq => ?_)
  obtain ⟨b, rfl⟩ := hr2
  obtain ⟨hR2, h22, hout⟩ := hq
  refine m2_lstore hB' (ls' := [.ref 1002, .ref kC, .ref kM, .ref kOut, .int (nI i), .int c1, .long b, .null]) dL_law_1696 (by decide) rfl ?_
  refine m2_aload_n hB' dL_law_1698 rfl ?_
  refine m2_inv hB' (as := []) (st := []) dL_law_1699 mv_L_51 rfl sh_kM rfl (by decide) rfl (P_X12_thrown (Nat.zero_le _) μ2) (fun r3 μ3 hr3 hq3 => ?_)
  obtain ⟨rfl, rfl⟩ := hq3
  refine m2_iload hB' dL_law_1702 rfl ?_
  refine m2_icmp_eq hB' dL_law_1704 (tgt := 1709) (by decide) (fun _ => ?_) (fun q => absurd h22 q)
  refine m2_iload hB' dL_law_1709 rfl ?_
  refine m2_if_ne hB' dL_law_1711 (tgt := 1725) (by decide) (fun _ => m2_goto hB' dL_law_1725 (tgt := 1728) (by decide) (m2_weak (ls' := [.ref 1002, .ref kC, .ref kM, .ref kOut, .int (nI i), .null, .null, .null]) hB' ⟨Or.inr rfl, Or.inr rfl, Or.inr rfl, Or.inr rfl, Or.inr rfl, Or.inl rfl, Or.inl rfl, Or.inl rfl, trivial⟩ (k _ hR2))) (fun q0 => ?_)
  refine m2_aload_n hB' dL_law_1714 rfl ?_
  refine m2_iconst hB' dL_law_1715 (v := 0) (by decide) ?_
  refine m2_lald hB' dL_law_1716 sh_kOut (by unfold vp_in; decide) ?_
  refine m2_lload hB' dL_law_1717 rfl ?_
  refine m2_lcmp hB' dL_law_1719 ?_
  have ho : μ3.2 kOut (0 : Int32).toNatClampNeg = b := by
    rcases hout q0 with z | ⟨b2, z, _⟩
    · exact (Value.long.inj (Option.some.inj z)).symm
    · cases z
  rw [ho, lw_cmp]
  exact m2_if_eq hB' dL_law_1720 (tgt := 1725) (by decide) (fun _ => m2_goto hB' dL_law_1725 (tgt := 1728) (by decide) (m2_weak (ls' := [.ref 1002, .ref kC, .ref kM, .ref kOut, .int (nI i), .null, .null, .null]) hB' ⟨Or.inr rfl, Or.inr rfl, Or.inr rfl, Or.inr rfl, Or.inr rfl, Or.inl rfl, Or.inl rfl, Or.inl rfl, trivial⟩ (k _ hR2))) (fun q => absurd rfl q)
