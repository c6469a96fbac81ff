theorem lw_in {i L v : Nat} (hi : i + 7 ≤ L) (hL : L ≤ 3584) (hv : v < 7) : vp_in (nI i + nI v) L := by
  rw [nI_add]
  exact vp_in_nI (by omega) (by omega)
theorem dL_law_224 : decode code 224 = .ok (.aload_n 1, 1) := by decide +kernel
theorem dL_law_225 : decode code 225 = .ok (.aload_n 0, 1) := by decide +kernel
theorem dL_law_226 : decode code 226 = .ok (.iload 4, 2) := by decide +kernel
theorem dL_law_228 : decode code 228 = .ok (.iconst 1, 1) := by decide +kernel
theorem dL_law_229 : decode code 229 = .ok (.iadd, 1) := by decide +kernel
theorem dL_law_230 : decode code 230 = .ok (.iaload, 1) := by decide +kernel
theorem dL_law_231 : decode code 231 = .ok (.invokevirtual 26, 3) := by decide +kernel
theorem dL_law_234 : decode code 234 = .ok (.aload_n 2, 1) := by decide +kernel
theorem dL_law_235 : decode code 235 = .ok (.aload_n 0, 1) := by decide +kernel
theorem dL_law_236 : decode code 236 = .ok (.iload 4, 2) := by decide +kernel
theorem dL_law_238 : decode code 238 = .ok (.iconst 1, 1) := by decide +kernel
theorem dL_law_239 : decode code 239 = .ok (.iadd, 1) := by decide +kernel
theorem dL_law_240 : decode code 240 = .ok (.iaload, 1) := by decide +kernel
theorem dL_law_241 : decode code 241 = .ok (.invokevirtual 30, 3) := by decide +kernel
theorem dL_law_244 : decode code 244 = .ok (.if_icmp .eq 1484, 3) := by decide +kernel
theorem LC_0 {κ : Nat → Nat → List Value → List Value → m2M → Prop} {mx D L n i : Nat} {xs : Nat → Int32} {μ : m2M} (h : m2_LW κ mx (D + 1) L xs) (hn : n ≤ mx) (hi : i + 7 ≤ L) (hL : L ≤ 3584) (hD : 420 ≤ D) (hR : REL μ) (k : ∀ μ', REL μ' → κ n 1728 [.ref 1002, .ref kC, .ref kM, .ref kOut, .int (nI i), .null, .null, .null] [] μ') : κ n 224 [.ref 1002, .ref kC, .ref kM, .ref kOut, .int (nI i), .null, .null, .null] [] μ := by
  have hB := h.b hn
  refine m2_aload_n hB dL_law_224 rfl ?_
  refine m2_aload_n hB dL_law_225 rfl ?_
  refine m2_iload hB dL_law_226 rfl ?_
  refine m2_iconst hB dL_law_228 (v := 1) (by decide) ?_
  refine m2_iadd hB dL_law_229 ?_
  refine h.ld (lw_in hi hL (show 1 < 7 by decide)) dL_law_230 ?_
  refine m2_inv hB (as := [.int (xs (nI i + 1).toNatClampNeg)]) (st := []) dL_law_231 mv_L_26 rfl sh_kC rfl (by decide) rfl (T_sign _ μ hR) (fun r μ1 hr hM => ?_)
  obtain ⟨y, rfl⟩ := hr
  refine m2_aload_n hB dL_law_234 rfl ?_
  refine m2_aload_n hB dL_law_235 rfl ?_
  refine m2_iload hB dL_law_236 rfl ?_
  refine m2_iconst hB dL_law_238 (v := 1) (by decide) ?_
  refine m2_iadd hB dL_law_239 ?_
  refine h.ld (lw_in hi hL (show 1 < 7 by decide)) dL_law_240 ?_
  refine m2_inv hB (as := [.int (xs (nI i + 1).toNatClampNeg)]) (st := [.int y]) dL_law_241 mv_L_30 rfl sh_kM rfl (ble rfl) rfl hM (fun r2 μ2 hr2 hq => ?_)
  obtain ⟨rfl, hR2⟩ := hq
  exact m2_icmp_eq hB dL_law_244 (tgt := 1728) (by decide) (fun _ => k μ2 hR2) (fun q => absurd rfl q)
theorem dL_law_249 : decode code 249 = .ok (.aload_n 1, 1) := by decide +kernel
theorem dL_law_250 : decode code 250 = .ok (.aload_n 0, 1) := by decide +kernel
theorem dL_law_251 : decode code 251 = .ok (.iload 4, 2) := by decide +kernel
theorem dL_law_253 : decode code 253 = .ok (.iconst 1, 1) := by decide +kernel
theorem dL_law_254 : decode code 254 = .ok (.iadd, 1) := by decide +kernel
theorem dL_law_255 : decode code 255 = .ok (.iaload, 1) := by decide +kernel
theorem dL_law_256 : decode code 256 = .ok (.invokevirtual 31, 3) := by decide +kernel
theorem dL_law_259 : decode code 259 = .ok (.aload_n 2, 1) := by decide +kernel
theorem dL_law_260 : decode code 260 = .ok (.aload_n 0, 1) := by decide +kernel
theorem dL_law_261 : decode code 261 = .ok (.iload 4, 2) := by decide +kernel
theorem dL_law_263 : decode code 263 = .ok (.iconst 1, 1) := by decide +kernel
theorem dL_law_264 : decode code 264 = .ok (.iadd, 1) := by decide +kernel
theorem dL_law_265 : decode code 265 = .ok (.iaload, 1) := by decide +kernel
theorem dL_law_266 : decode code 266 = .ok (.invokevirtual 35, 3) := by decide +kernel
theorem dL_law_269 : decode code 269 = .ok (.if_icmp .eq 1459, 3) := by decide +kernel
theorem LC_1 {κ : Nat → Nat → List Value → List Value → m2M → Prop} {mx D L n i : Nat} {xs : Nat → Int32} {μ : m2M} (h : m2_LW κ mx (D + 1) L xs) (hn : n ≤ mx) (hi : i + 7 ≤ L) (hL : L ≤ 3584) (hD : 420 ≤ D) (hR : REL μ) (k : ∀ μ', REL μ' → κ n 1728 [.ref 1002, .ref kC, .ref kM, .ref kOut, .int (nI i), .null, .null, .null] [] μ') : κ n 249 [.ref 1002, .ref kC, .ref kM, .ref kOut, .int (nI i), .null, .null, .null] [] μ := by
  have hB := h.b hn
  refine m2_aload_n hB dL_law_249 rfl ?_
  refine m2_aload_n hB dL_law_250 rfl ?_
  refine m2_iload hB dL_law_251 rfl ?_
  refine m2_iconst hB dL_law_253 (v := 1) (by decide) ?_
  refine m2_iadd hB dL_law_254 ?_
  refine h.ld (lw_in hi hL (show 1 < 7 by decide)) dL_law_255 ?_
  refine m2_inv hB (as := [.int (xs (nI i + 1).toNatClampNeg)]) (st := []) dL_law_256 mv_L_31 rfl sh_kC rfl (by decide) rfl (T_end (by omega) _ μ hR) (fun r μ1 hr hM => ?_)
  obtain ⟨y, rfl⟩ := hr
  refine m2_aload_n hB dL_law_259 rfl ?_
  refine m2_aload_n hB dL_law_260 rfl ?_
  refine m2_iload hB dL_law_261 rfl ?_
  refine m2_iconst hB dL_law_263 (v := 1) (by decide) ?_
  refine m2_iadd hB dL_law_264 ?_
  refine h.ld (lw_in hi hL (show 1 < 7 by decide)) dL_law_265 ?_
  refine m2_inv hB (as := [.int (xs (nI i + 1).toNatClampNeg)]) (st := [.int y]) dL_law_266 mv_L_35 rfl sh_kM rfl (ble rfl) rfl hM (fun r2 μ2 hr2 hq => ?_)
  obtain ⟨rfl, hR2⟩ := hq
  exact m2_icmp_eq hB dL_law_269 (tgt := 1728) (by decide) (fun _ => k μ2 hR2) (fun q => absurd rfl q)
theorem dL_law_274 : decode code 274 = .ok (.aload_n 1, 1) := by decide +kernel
theorem dL_law_275 : decode code 275 = .ok (.invokevirtual 36, 3) := by decide +kernel
theorem dL_law_278 : decode code 278 = .ok (.aload_n 2, 1) := by decide +kernel
theorem dL_law_279 : decode code 279 = .ok (.invokevirtual 40, 3) := by decide +kernel
theorem dL_law_282 : decode code 282 = .ok (.if_icmp .eq 1446, 3) := by decide +kernel
theorem LC_2 {κ : Nat → Nat → List Value → List Value → m2M → Prop} {mx D L n i : Nat} {xs : Nat → Int32} {μ : m2M} (h : m2_LW κ mx (D + 1) L xs) (hn : n ≤ mx) (hi : i + 7 ≤ L) (hL : L ≤ 3584) (hD : 420 ≤ D) (hR : REL μ) (k : ∀ μ', REL μ' → κ n 1728 [.ref 1002, .ref kC, .ref kM, .ref kOut, .int (nI i), .null, .null, .null] [] μ') : κ n 274 [.ref 1002, .ref kC, .ref kM, .ref kOut, .int (nI i), .null, .null, .null] [] μ := by
  have hB := h.b hn
  refine m2_aload_n hB dL_law_274 rfl ?_
  refine m2_inv hB (as := []) (st := []) dL_law_275 mv_L_36 rfl sh_kC rfl (by decide) rfl (T_house (by omega) μ hR) (fun r μ1 hr hM => ?_)
  obtain ⟨y, rfl⟩ := hr
  refine m2_aload_n hB dL_law_278 rfl ?_
  refine m2_inv hB (as := []) (st := [.int y]) dL_law_279 mv_L_40 rfl sh_kM rfl (ble rfl) rfl hM (fun r2 μ2 hr2 hq => ?_)
  obtain ⟨rfl, hR2⟩ := hq
  exact m2_icmp_eq hB dL_law_282 (tgt := 1728) (by decide) (fun _ => k μ2 hR2) (fun q => absurd rfl q)
theorem dL_law_436 : decode code 436 = .ok (.aload_n 1, 1) := by decide +kernel
theorem dL_law_437 : decode code 437 = .ok (.aload_n 0, 1) := by decide +kernel
theorem dL_law_438 : decode code 438 = .ok (.iload 4, 2) := by decide +kernel
theorem dL_law_440 : decode code 440 = .ok (.iconst 1, 1) := by decide +kernel
theorem dL_law_441 : decode code 441 = .ok (.iadd, 1) := by decide +kernel
theorem dL_law_442 : decode code 442 = .ok (.iaload, 1) := by decide +kernel
theorem dL_law_443 : decode code 443 = .ok (.aload_n 0, 1) := by decide +kernel
theorem dL_law_444 : decode code 444 = .ok (.iload 4, 2) := by decide +kernel
theorem dL_law_446 : decode code 446 = .ok (.iconst 2, 1) := by decide +kernel
theorem dL_law_447 : decode code 447 = .ok (.iadd, 1) := by decide +kernel
theorem dL_law_448 : decode code 448 = .ok (.iaload, 1) := by decide +kernel
theorem dL_law_449 : decode code 449 = .ok (.aload_n 0, 1) := by decide +kernel
theorem dL_law_450 : decode code 450 = .ok (.iload 4, 2) := by decide +kernel
theorem dL_law_452 : decode code 452 = .ok (.iconst 3, 1) := by decide +kernel
theorem dL_law_453 : decode code 453 = .ok (.iadd, 1) := by decide +kernel
theorem dL_law_454 : decode code 454 = .ok (.iaload, 1) := by decide +kernel
theorem dL_law_455 : decode code 455 = .ok (.aload_n 0, 1) := by decide +kernel
theorem dL_law_456 : decode code 456 = .ok (.iload 4, 2) := by decide +kernel
theorem dL_law_458 : decode code 458 = .ok (.iconst 4, 1) := by decide +kernel
theorem dL_law_459 : decode code 459 = .ok (.iadd, 1) := by decide +kernel
theorem dL_law_460 : decode code 460 = .ok (.iaload, 1) := by decide +kernel
theorem dL_law_461 : decode code 461 = .ok (.invokevirtual 57, 3) := by decide +kernel
theorem dL_law_464 : decode code 464 = .ok (.aload_n 2, 1) := by decide +kernel
theorem dL_law_465 : decode code 465 = .ok (.aload_n 0, 1) := by decide +kernel
theorem dL_law_466 : decode code 466 = .ok (.iload 4, 2) := by decide +kernel
theorem dL_law_468 : decode code 468 = .ok (.iconst 1, 1) := by decide +kernel
theorem dL_law_469 : decode code 469 = .ok (.iadd, 1) := by decide +kernel
theorem dL_law_470 : decode code 470 = .ok (.iaload, 1) := by decide +kernel
theorem dL_law_471 : decode code 471 = .ok (.aload_n 0, 1) := by decide +kernel
theorem dL_law_472 : decode code 472 = .ok (.iload 4, 2) := by decide +kernel
theorem dL_law_474 : decode code 474 = .ok (.iconst 2, 1) := by decide +kernel
theorem dL_law_475 : decode code 475 = .ok (.iadd, 1) := by decide +kernel
theorem dL_law_476 : decode code 476 = .ok (.iaload, 1) := by decide +kernel
theorem dL_law_477 : decode code 477 = .ok (.aload_n 0, 1) := by decide +kernel
theorem dL_law_478 : decode code 478 = .ok (.iload 4, 2) := by decide +kernel
theorem dL_law_480 : decode code 480 = .ok (.iconst 3, 1) := by decide +kernel
theorem dL_law_481 : decode code 481 = .ok (.iadd, 1) := by decide +kernel
theorem dL_law_482 : decode code 482 = .ok (.iaload, 1) := by decide +kernel
theorem dL_law_483 : decode code 483 = .ok (.aload_n 0, 1) := by decide +kernel
theorem dL_law_484 : decode code 484 = .ok (.iload 4, 2) := by decide +kernel
theorem dL_law_486 : decode code 486 = .ok (.iconst 4, 1) := by decide +kernel
theorem dL_law_487 : decode code 487 = .ok (.iadd, 1) := by decide +kernel
theorem dL_law_488 : decode code 488 = .ok (.iaload, 1) := by decide +kernel
theorem dL_law_489 : decode code 489 = .ok (.invokevirtual 61, 3) := by decide +kernel
theorem dL_law_492 : decode code 492 = .ok (.if_icmp .eq 1236, 3) := by decide +kernel
theorem LC_6 {κ : Nat → Nat → List Value → List Value → m2M → Prop} {mx D L n i : Nat} {xs : Nat → Int32} {μ : m2M} (h : m2_LW κ mx (D + 1) L xs) (hn : n ≤ mx) (hi : i + 7 ≤ L) (hL : L ≤ 3584) (hD : 420 ≤ D) (hR : REL μ) (k : ∀ μ', REL μ' → κ n 1728 [.ref 1002, .ref kC, .ref kM, .ref kOut, .int (nI i), .null, .null, .null] [] μ') : κ n 436 [.ref 1002, .ref kC, .ref kM, .ref kOut, .int (nI i), .null, .null, .null] [] μ := by
  have hB := h.b hn
  refine m2_aload_n hB dL_law_436 rfl ?_
  refine m2_aload_n hB dL_law_437 rfl ?_
  refine m2_iload hB dL_law_438 rfl ?_
  refine m2_iconst hB dL_law_440 (v := 1) (by decide) ?_
  refine m2_iadd hB dL_law_441 ?_
  refine h.ld (lw_in hi hL (show 1 < 7 by decide)) dL_law_442 ?_
  refine m2_aload_n hB dL_law_443 rfl ?_
  refine m2_iload hB dL_law_444 rfl ?_
  refine m2_iconst hB dL_law_446 (v := 2) (by decide) ?_
  refine m2_iadd hB dL_law_447 ?_
  refine h.ld (lw_in hi hL (show 2 < 7 by decide)) dL_law_448 ?_
  refine m2_aload_n hB dL_law_449 rfl ?_
  refine m2_iload hB dL_law_450 rfl ?_
  refine m2_iconst hB dL_law_452 (v := 3) (by decide) ?_
  refine m2_iadd hB dL_law_453 ?_
  refine h.ld (lw_in hi hL (show 3 < 7 by decide)) dL_law_454 ?_
  refine m2_aload_n hB dL_law_455 rfl ?_
  refine m2_iload hB dL_law_456 rfl ?_
  refine m2_iconst hB dL_law_458 (v := 4) (by decide) ?_
  refine m2_iadd hB dL_law_459 ?_
  refine h.ld (lw_in hi hL (show 4 < 7 by decide)) dL_law_460 ?_
  refine m2_inv hB (as := [.int (xs (nI i + 1).toNatClampNeg), .int (xs (nI i + 2).toNatClampNeg), .int (xs (nI i + 3).toNatClampNeg), .int (xs (nI i + 4).toNatClampNeg)]) (st := []) dL_law_461 mv_L_57 rfl sh_kC rfl (by decide) rfl (T_sheet (by omega) _ _ _ _ μ hR) (fun r μ1 hr hM => ?_)
  obtain ⟨y, rfl⟩ := hr
  refine m2_aload_n hB dL_law_464 rfl ?_
  refine m2_aload_n hB dL_law_465 rfl ?_
  refine m2_iload hB dL_law_466 rfl ?_
  refine m2_iconst hB dL_law_468 (v := 1) (by decide) ?_
  refine m2_iadd hB dL_law_469 ?_
  refine h.ld (lw_in hi hL (show 1 < 7 by decide)) dL_law_470 ?_
  refine m2_aload_n hB dL_law_471 rfl ?_
  refine m2_iload hB dL_law_472 rfl ?_
  refine m2_iconst hB dL_law_474 (v := 2) (by decide) ?_
  refine m2_iadd hB dL_law_475 ?_
  refine h.ld (lw_in hi hL (show 2 < 7 by decide)) dL_law_476 ?_
  refine m2_aload_n hB dL_law_477 rfl ?_
  refine m2_iload hB dL_law_478 rfl ?_
  refine m2_iconst hB dL_law_480 (v := 3) (by decide) ?_
  refine m2_iadd hB dL_law_481 ?_
  refine h.ld (lw_in hi hL (show 3 < 7 by decide)) dL_law_482 ?_
  refine m2_aload_n hB dL_law_483 rfl ?_
  refine m2_iload hB dL_law_484 rfl ?_
  refine m2_iconst hB dL_law_486 (v := 4) (by decide) ?_
  refine m2_iadd hB dL_law_487 ?_
  refine h.ld (lw_in hi hL (show 4 < 7 by decide)) dL_law_488 ?_
  refine m2_inv hB (as := [.int (xs (nI i + 1).toNatClampNeg), .int (xs (nI i + 2).toNatClampNeg), .int (xs (nI i + 3).toNatClampNeg), .int (xs (nI i + 4).toNatClampNeg)]) (st := [.int y]) dL_law_489 mv_L_61 rfl sh_kM rfl (ble rfl) rfl hM (fun r2 μ2 hr2 hq => ?_)
  obtain ⟨rfl, hR2⟩ := hq
  exact m2_icmp_eq hB dL_law_492 (tgt := 1728) (by decide) (fun _ => k μ2 hR2) (fun q => absurd rfl q)
theorem dL_law_497 : decode code 497 = .ok (.aload_n 1, 1) := by decide +kernel
theorem dL_law_498 : decode code 498 = .ok (.aload_n 0, 1) := by decide +kernel
theorem dL_law_499 : decode code 499 = .ok (.iload 4, 2) := by decide +kernel
theorem dL_law_501 : decode code 501 = .ok (.iconst 1, 1) := by decide +kernel
theorem dL_law_502 : decode code 502 = .ok (.iadd, 1) := by decide +kernel
theorem dL_law_503 : decode code 503 = .ok (.iaload, 1) := by decide +kernel
theorem dL_law_504 : decode code 504 = .ok (.invokevirtual 62, 3) := by decide +kernel
theorem dL_law_507 : decode code 507 = .ok (.aload_n 2, 1) := by decide +kernel
theorem dL_law_508 : decode code 508 = .ok (.aload_n 0, 1) := by decide +kernel
theorem dL_law_509 : decode code 509 = .ok (.iload 4, 2) := by decide +kernel
theorem dL_law_511 : decode code 511 = .ok (.iconst 1, 1) := by decide +kernel
theorem dL_law_512 : decode code 512 = .ok (.iadd, 1) := by decide +kernel
theorem dL_law_513 : decode code 513 = .ok (.iaload, 1) := by decide +kernel
theorem dL_law_514 : decode code 514 = .ok (.invokevirtual 65, 3) := by decide +kernel
theorem dL_law_517 : decode code 517 = .ok (.if_icmp .eq 1211, 3) := by decide +kernel
theorem LC_7 {κ : Nat → Nat → List Value → List Value → m2M → Prop} {mx D L n i : Nat} {xs : Nat → Int32} {μ : m2M} (h : m2_LW κ mx (D + 1) L xs) (hn : n ≤ mx) (hi : i + 7 ≤ L) (hL : L ≤ 3584) (hD : 420 ≤ D) (hR : REL μ) (k : ∀ μ', REL μ' → κ n 1728 [.ref 1002, .ref kC, .ref kM, .ref kOut, .int (nI i), .null, .null, .null] [] μ') : κ n 497 [.ref 1002, .ref kC, .ref kM, .ref kOut, .int (nI i), .null, .null, .null] [] μ := by
  have hB := h.b hn
  refine m2_aload_n hB dL_law_497 rfl ?_
  refine m2_aload_n hB dL_law_498 rfl ?_
  refine m2_iload hB dL_law_499 rfl ?_
  refine m2_iconst hB dL_law_501 (v := 1) (by decide) ?_
  refine m2_iadd hB dL_law_502 ?_
  refine h.ld (lw_in hi hL (show 1 < 7 by decide)) dL_law_503 ?_
  refine m2_inv hB (as := [.int (xs (nI i + 1).toNatClampNeg)]) (st := []) dL_law_504 mv_L_62 rfl sh_kC rfl (by decide) rfl (T_keeps (by omega) _ μ hR) (fun r μ1 hr hM => ?_)
  obtain ⟨y, rfl⟩ := hr
  refine m2_aload_n hB dL_law_507 rfl ?_
  refine m2_aload_n hB dL_law_508 rfl ?_
  refine m2_iload hB dL_law_509 rfl ?_
  refine m2_iconst hB dL_law_511 (v := 1) (by decide) ?_
  refine m2_iadd hB dL_law_512 ?_
  refine h.ld (lw_in hi hL (show 1 < 7 by decide)) dL_law_513 ?_
  refine m2_inv hB (as := [.int (xs (nI i + 1).toNatClampNeg)]) (st := [.int y]) dL_law_514 mv_L_65 rfl sh_kM rfl (ble rfl) rfl hM (fun r2 μ2 hr2 hq => ?_)
  obtain ⟨rfl, hR2⟩ := hq
  exact m2_icmp_eq hB dL_law_517 (tgt := 1728) (by decide) (fun _ => k μ2 hR2) (fun q => absurd rfl q)
theorem dL_law_522 : decode code 522 = .ok (.aload_n 1, 1) := by decide +kernel
theorem dL_law_523 : decode code 523 = .ok (.aload_n 0, 1) := by decide +kernel
theorem dL_law_524 : decode code 524 = .ok (.iload 4, 2) := by decide +kernel
theorem dL_law_526 : decode code 526 = .ok (.iconst 1, 1) := by decide +kernel
theorem dL_law_527 : decode code 527 = .ok (.iadd, 1) := by decide +kernel
theorem dL_law_528 : decode code 528 = .ok (.iaload, 1) := by decide +kernel
theorem dL_law_529 : decode code 529 = .ok (.invokevirtual 66, 3) := by decide +kernel
theorem dL_law_532 : decode code 532 = .ok (.aload_n 2, 1) := by decide +kernel
theorem dL_law_533 : decode code 533 = .ok (.aload_n 0, 1) := by decide +kernel
theorem dL_law_534 : decode code 534 = .ok (.iload 4, 2) := by decide +kernel
theorem dL_law_536 : decode code 536 = .ok (.iconst 1, 1) := by decide +kernel
theorem dL_law_537 : decode code 537 = .ok (.iadd, 1) := by decide +kernel
theorem dL_law_538 : decode code 538 = .ok (.iaload, 1) := by decide +kernel
theorem dL_law_539 : decode code 539 = .ok (.invokevirtual 69, 3) := by decide +kernel
theorem dL_law_542 : decode code 542 = .ok (.if_icmp .eq 1186, 3) := by decide +kernel
theorem LC_8 {κ : Nat → Nat → List Value → List Value → m2M → Prop} {mx D L n i : Nat} {xs : Nat → Int32} {μ : m2M} (h : m2_LW κ mx (D + 1) L xs) (hn : n ≤ mx) (hi : i + 7 ≤ L) (hL : L ≤ 3584) (hD : 420 ≤ D) (hR : REL μ) (k : ∀ μ', REL μ' → κ n 1728 [.ref 1002, .ref kC, .ref kM, .ref kOut, .int (nI i), .null, .null, .null] [] μ') : κ n 522 [.ref 1002, .ref kC, .ref kM, .ref kOut, .int (nI i), .null, .null, .null] [] μ := by
  have hB := h.b hn
  refine m2_aload_n hB dL_law_522 rfl ?_
  refine m2_aload_n hB dL_law_523 rfl ?_
  refine m2_iload hB dL_law_524 rfl ?_
  refine m2_iconst hB dL_law_526 (v := 1) (by decide) ?_
  refine m2_iadd hB dL_law_527 ?_
  refine h.ld (lw_in hi hL (show 1 < 7 by decide)) dL_law_528 ?_
  refine m2_inv hB (as := [.int (xs (nI i + 1).toNatClampNeg)]) (st := []) dL_law_529 mv_L_66 rfl sh_kC rfl (by decide) rfl (T_hours (by omega) _ μ hR) (fun r μ1 hr hM => ?_)
  obtain ⟨y, rfl⟩ := hr
  refine m2_aload_n hB dL_law_532 rfl ?_
  refine m2_aload_n hB dL_law_533 rfl ?_
  refine m2_iload hB dL_law_534 rfl ?_
  refine m2_iconst hB dL_law_536 (v := 1) (by decide) ?_
  refine m2_iadd hB dL_law_537 ?_
  refine h.ld (lw_in hi hL (show 1 < 7 by decide)) dL_law_538 ?_
  refine m2_inv hB (as := [.int (xs (nI i + 1).toNatClampNeg)]) (st := [.int y]) dL_law_539 mv_L_69 rfl sh_kM rfl (ble rfl) rfl hM (fun r2 μ2 hr2 hq => ?_)
  obtain ⟨rfl, hR2⟩ := hq
  exact m2_icmp_eq hB dL_law_542 (tgt := 1728) (by decide) (fun _ => k μ2 hR2) (fun q => absurd rfl q)
theorem dL_law_547 : decode code 547 = .ok (.aload_n 1, 1) := by decide +kernel
theorem dL_law_548 : decode code 548 = .ok (.aload_n 0, 1) := by decide +kernel
theorem dL_law_549 : decode code 549 = .ok (.iload 4, 2) := by decide +kernel
theorem dL_law_551 : decode code 551 = .ok (.iconst 1, 1) := by decide +kernel
theorem dL_law_552 : decode code 552 = .ok (.iadd, 1) := by decide +kernel
theorem dL_law_553 : decode code 553 = .ok (.iaload, 1) := by decide +kernel
theorem dL_law_554 : decode code 554 = .ok (.aload_n 0, 1) := by decide +kernel
theorem dL_law_555 : decode code 555 = .ok (.iload 4, 2) := by decide +kernel
theorem dL_law_557 : decode code 557 = .ok (.iconst 2, 1) := by decide +kernel
theorem dL_law_558 : decode code 558 = .ok (.iadd, 1) := by decide +kernel
theorem dL_law_559 : decode code 559 = .ok (.iaload, 1) := by decide +kernel
theorem dL_law_560 : decode code 560 = .ok (.invokevirtual 70, 3) := by decide +kernel
theorem dL_law_563 : decode code 563 = .ok (.aload_n 2, 1) := by decide +kernel
theorem dL_law_564 : decode code 564 = .ok (.aload_n 0, 1) := by decide +kernel
theorem dL_law_565 : decode code 565 = .ok (.iload 4, 2) := by decide +kernel
theorem dL_law_567 : decode code 567 = .ok (.iconst 1, 1) := by decide +kernel
theorem dL_law_568 : decode code 568 = .ok (.iadd, 1) := by decide +kernel
theorem dL_law_569 : decode code 569 = .ok (.iaload, 1) := by decide +kernel
theorem dL_law_570 : decode code 570 = .ok (.aload_n 0, 1) := by decide +kernel
theorem dL_law_571 : decode code 571 = .ok (.iload 4, 2) := by decide +kernel
theorem dL_law_573 : decode code 573 = .ok (.iconst 2, 1) := by decide +kernel
theorem dL_law_574 : decode code 574 = .ok (.iadd, 1) := by decide +kernel
theorem dL_law_575 : decode code 575 = .ok (.iaload, 1) := by decide +kernel
theorem dL_law_576 : decode code 576 = .ok (.invokevirtual 73, 3) := by decide +kernel
theorem dL_law_579 : decode code 579 = .ok (.if_icmp .eq 1149, 3) := by decide +kernel
theorem LC_9 {κ : Nat → Nat → List Value → List Value → m2M → Prop} {mx D L n i : Nat} {xs : Nat → Int32} {μ : m2M} (h : m2_LW κ mx (D + 1) L xs) (hn : n ≤ mx) (hi : i + 7 ≤ L) (hL : L ≤ 3584) (hD : 420 ≤ D) (hR : REL μ) (k : ∀ μ', REL μ' → κ n 1728 [.ref 1002, .ref kC, .ref kM, .ref kOut, .int (nI i), .null, .null, .null] [] μ') : κ n 547 [.ref 1002, .ref kC, .ref kM, .ref kOut, .int (nI i), .null, .null, .null] [] μ := by
  have hB := h.b hn
  refine m2_aload_n hB dL_law_547 rfl ?_
  refine m2_aload_n hB dL_law_548 rfl ?_
  refine m2_iload hB dL_law_549 rfl ?_
  refine m2_iconst hB dL_law_551 (v := 1) (by decide) ?_
  refine m2_iadd hB dL_law_552 ?_
  refine h.ld (lw_in hi hL (show 1 < 7 by decide)) dL_law_553 ?_
  refine m2_aload_n hB dL_law_554 rfl ?_
  refine m2_iload hB dL_law_555 rfl ?_
  refine m2_iconst hB dL_law_557 (v := 2) (by decide) ?_
  refine m2_iadd hB dL_law_558 ?_
  refine h.ld (lw_in hi hL (show 2 < 7 by decide)) dL_law_559 ?_
  refine m2_inv hB (as := [.int (xs (nI i + 1).toNatClampNeg), .int (xs (nI i + 2).toNatClampNeg)]) (st := []) dL_law_560 mv_L_70 rfl sh_kC rfl (by decide) rfl (T_pass (by omega) _ _ μ hR) (fun r μ1 hr hM => ?_)
  obtain ⟨y, rfl⟩ := hr
  refine m2_aload_n hB dL_law_563 rfl ?_
  refine m2_aload_n hB dL_law_564 rfl ?_
  refine m2_iload hB dL_law_565 rfl ?_
  refine m2_iconst hB dL_law_567 (v := 1) (by decide) ?_
  refine m2_iadd hB dL_law_568 ?_
  refine h.ld (lw_in hi hL (show 1 < 7 by decide)) dL_law_569 ?_
  refine m2_aload_n hB dL_law_570 rfl ?_
  refine m2_iload hB dL_law_571 rfl ?_
  refine m2_iconst hB dL_law_573 (v := 2) (by decide) ?_
  refine m2_iadd hB dL_law_574 ?_
  refine h.ld (lw_in hi hL (show 2 < 7 by decide)) dL_law_575 ?_
  refine m2_inv hB (as := [.int (xs (nI i + 1).toNatClampNeg), .int (xs (nI i + 2).toNatClampNeg)]) (st := [.int y]) dL_law_576 mv_L_73 rfl sh_kM rfl (ble rfl) rfl hM (fun r2 μ2 hr2 hq => ?_)
  obtain ⟨rfl, hR2⟩ := hq
  exact m2_icmp_eq hB dL_law_579 (tgt := 1728) (by decide) (fun _ => k μ2 hR2) (fun q => absurd rfl q)
theorem dL_law_584 : decode code 584 = .ok (.aload_n 1, 1) := by decide +kernel
theorem dL_law_585 : decode code 585 = .ok (.aload_n 0, 1) := by decide +kernel
theorem dL_law_586 : decode code 586 = .ok (.iload 4, 2) := by decide +kernel
theorem dL_law_588 : decode code 588 = .ok (.iconst 1, 1) := by decide +kernel
theorem dL_law_589 : decode code 589 = .ok (.iadd, 1) := by decide +kernel
theorem dL_law_590 : decode code 590 = .ok (.iaload, 1) := by decide +kernel
theorem dL_law_591 : decode code 591 = .ok (.aload_n 0, 1) := by decide +kernel
theorem dL_law_592 : decode code 592 = .ok (.iload 4, 2) := by decide +kernel
theorem dL_law_594 : decode code 594 = .ok (.iconst 2, 1) := by decide +kernel
theorem dL_law_595 : decode code 595 = .ok (.iadd, 1) := by decide +kernel
theorem dL_law_596 : decode code 596 = .ok (.iaload, 1) := by decide +kernel
theorem dL_law_597 : decode code 597 = .ok (.invokevirtual 74, 3) := by decide +kernel
theorem dL_law_600 : decode code 600 = .ok (.aload_n 2, 1) := by decide +kernel
theorem dL_law_601 : decode code 601 = .ok (.aload_n 0, 1) := by decide +kernel
theorem dL_law_602 : decode code 602 = .ok (.iload 4, 2) := by decide +kernel
theorem dL_law_604 : decode code 604 = .ok (.iconst 1, 1) := by decide +kernel
theorem dL_law_605 : decode code 605 = .ok (.iadd, 1) := by decide +kernel
theorem dL_law_606 : decode code 606 = .ok (.iaload, 1) := by decide +kernel
theorem dL_law_607 : decode code 607 = .ok (.aload_n 0, 1) := by decide +kernel
theorem dL_law_608 : decode code 608 = .ok (.iload 4, 2) := by decide +kernel
theorem dL_law_610 : decode code 610 = .ok (.iconst 2, 1) := by decide +kernel
theorem dL_law_611 : decode code 611 = .ok (.iadd, 1) := by decide +kernel
theorem dL_law_612 : decode code 612 = .ok (.iaload, 1) := by decide +kernel
theorem dL_law_613 : decode code 613 = .ok (.invokevirtual 77, 3) := by decide +kernel
theorem dL_law_616 : decode code 616 = .ok (.if_icmp .eq 1112, 3) := by decide +kernel
theorem LC_10 {κ : Nat → Nat → List Value → List Value → m2M → Prop} {mx D L n i : Nat} {xs : Nat → Int32} {μ : m2M} (h : m2_LW κ mx (D + 1) L xs) (hn : n ≤ mx) (hi : i + 7 ≤ L) (hL : L ≤ 3584) (hD : 420 ≤ D) (hR : REL μ) (k : ∀ μ', REL μ' → κ n 1728 [.ref 1002, .ref kC, .ref kM, .ref kOut, .int (nI i), .null, .null, .null] [] μ') : κ n 584 [.ref 1002, .ref kC, .ref kM, .ref kOut, .int (nI i), .null, .null, .null] [] μ := by
  have hB := h.b hn
  refine m2_aload_n hB dL_law_584 rfl ?_
  refine m2_aload_n hB dL_law_585 rfl ?_
  refine m2_iload hB dL_law_586 rfl ?_
  refine m2_iconst hB dL_law_588 (v := 1) (by decide) ?_
  refine m2_iadd hB dL_law_589 ?_
  refine h.ld (lw_in hi hL (show 1 < 7 by decide)) dL_law_590 ?_
  refine m2_aload_n hB dL_law_591 rfl ?_
  refine m2_iload hB dL_law_592 rfl ?_
  refine m2_iconst hB dL_law_594 (v := 2) (by decide) ?_
  refine m2_iadd hB dL_law_595 ?_
  refine h.ld (lw_in hi hL (show 2 < 7 by decide)) dL_law_596 ?_
  refine m2_inv hB (as := [.int (xs (nI i + 1).toNatClampNeg), .int (xs (nI i + 2).toNatClampNeg)]) (st := []) dL_law_597 mv_L_74 rfl sh_kC rfl (by decide) rfl (T_way (by omega) _ _ μ hR) (fun r μ1 hr hM => ?_)
  obtain ⟨y, rfl⟩ := hr
  refine m2_aload_n hB dL_law_600 rfl ?_
  refine m2_aload_n hB dL_law_601 rfl ?_
  refine m2_iload hB dL_law_602 rfl ?_
  refine m2_iconst hB dL_law_604 (v := 1) (by decide) ?_
  refine m2_iadd hB dL_law_605 ?_
  refine h.ld (lw_in hi hL (show 1 < 7 by decide)) dL_law_606 ?_
  refine m2_aload_n hB dL_law_607 rfl ?_
  refine m2_iload hB dL_law_608 rfl ?_
  refine m2_iconst hB dL_law_610 (v := 2) (by decide) ?_
  refine m2_iadd hB dL_law_611 ?_
  refine h.ld (lw_in hi hL (show 2 < 7 by decide)) dL_law_612 ?_
  refine m2_inv hB (as := [.int (xs (nI i + 1).toNatClampNeg), .int (xs (nI i + 2).toNatClampNeg)]) (st := [.int y]) dL_law_613 mv_L_77 rfl sh_kM rfl (ble rfl) rfl hM (fun r2 μ2 hr2 hq => ?_)
  obtain ⟨rfl, hR2⟩ := hq
  exact m2_icmp_eq hB dL_law_616 (tgt := 1728) (by decide) (fun _ => k μ2 hR2) (fun q => absurd rfl q)
theorem dL_law_621 : decode code 621 = .ok (.aload_n 1, 1) := by decide +kernel
theorem dL_law_622 : decode code 622 = .ok (.aload_n 0, 1) := by decide +kernel
theorem dL_law_623 : decode code 623 = .ok (.iload 4, 2) := by decide +kernel
theorem dL_law_625 : decode code 625 = .ok (.iconst 1, 1) := by decide +kernel
theorem dL_law_626 : decode code 626 = .ok (.iadd, 1) := by decide +kernel
theorem dL_law_627 : decode code 627 = .ok (.iaload, 1) := by decide +kernel
theorem dL_law_628 : decode code 628 = .ok (.invokevirtual 78, 3) := by decide +kernel
theorem dL_law_631 : decode code 631 = .ok (.aload_n 2, 1) := by decide +kernel
theorem dL_law_632 : decode code 632 = .ok (.aload_n 0, 1) := by decide +kernel
theorem dL_law_633 : decode code 633 = .ok (.iload 4, 2) := by decide +kernel
theorem dL_law_635 : decode code 635 = .ok (.iconst 1, 1) := by decide +kernel
theorem dL_law_636 : decode code 636 = .ok (.iadd, 1) := by decide +kernel
theorem dL_law_637 : decode code 637 = .ok (.iaload, 1) := by decide +kernel
theorem dL_law_638 : decode code 638 = .ok (.invokevirtual 81, 3) := by decide +kernel
theorem dL_law_641 : decode code 641 = .ok (.if_icmp .eq 1087, 3) := by decide +kernel
theorem LC_11 {κ : Nat → Nat → List Value → List Value → m2M → Prop} {mx D L n i : Nat} {xs : Nat → Int32} {μ : m2M} (h : m2_LW κ mx (D + 1) L xs) (hn : n ≤ mx) (hi : i + 7 ≤ L) (hL : L ≤ 3584) (hD : 420 ≤ D) (hR : REL μ) (k : ∀ μ', REL μ' → κ n 1728 [.ref 1002, .ref kC, .ref kM, .ref kOut, .int (nI i), .null, .null, .null] [] μ') : κ n 621 [.ref 1002, .ref kC, .ref kM, .ref kOut, .int (nI i), .null, .null, .null] [] μ := by
  have hB := h.b hn
  refine m2_aload_n hB dL_law_621 rfl ?_
  refine m2_aload_n hB dL_law_622 rfl ?_
  refine m2_iload hB dL_law_623 rfl ?_
  refine m2_iconst hB dL_law_625 (v := 1) (by decide) ?_
  refine m2_iadd hB dL_law_626 ?_
  refine h.ld (lw_in hi hL (show 1 < 7 by decide)) dL_law_627 ?_
  refine m2_inv hB (as := [.int (xs (nI i + 1).toNatClampNeg)]) (st := []) dL_law_628 mv_L_78 rfl sh_kC rfl (by decide) rfl (T_may (by omega) _ μ hR) (fun r μ1 hr hM => ?_)
  obtain ⟨y, rfl⟩ := hr
  refine m2_aload_n hB dL_law_631 rfl ?_
  refine m2_aload_n hB dL_law_632 rfl ?_
  refine m2_iload hB dL_law_633 rfl ?_
  refine m2_iconst hB dL_law_635 (v := 1) (by decide) ?_
  refine m2_iadd hB dL_law_636 ?_
  refine h.ld (lw_in hi hL (show 1 < 7 by decide)) dL_law_637 ?_
  refine m2_inv hB (as := [.int (xs (nI i + 1).toNatClampNeg)]) (st := [.int y]) dL_law_638 mv_L_81 rfl sh_kM rfl (ble rfl) rfl hM (fun r2 μ2 hr2 hq => ?_)
  obtain ⟨rfl, hR2⟩ := hq
  exact m2_icmp_eq hB dL_law_641 (tgt := 1728) (by decide) (fun _ => k μ2 hR2) (fun q => absurd rfl q)
theorem dL_law_646 : decode code 646 = .ok (.aload_n 1, 1) := by decide +kernel
theorem dL_law_647 : decode code 647 = .ok (.aload_n 0, 1) := by decide +kernel
theorem dL_law_648 : decode code 648 = .ok (.iload 4, 2) := by decide +kernel
theorem dL_law_650 : decode code 650 = .ok (.iconst 1, 1) := by decide +kernel
theorem dL_law_651 : decode code 651 = .ok (.iadd, 1) := by decide +kernel
theorem dL_law_652 : decode code 652 = .ok (.iaload, 1) := by decide +kernel
theorem dL_law_653 : decode code 653 = .ok (.aload_n 0, 1) := by decide +kernel
theorem dL_law_654 : decode code 654 = .ok (.iload 4, 2) := by decide +kernel
theorem dL_law_656 : decode code 656 = .ok (.iconst 2, 1) := by decide +kernel
theorem dL_law_657 : decode code 657 = .ok (.iadd, 1) := by decide +kernel
theorem dL_law_658 : decode code 658 = .ok (.iaload, 1) := by decide +kernel
theorem dL_law_659 : decode code 659 = .ok (.invokevirtual 82, 3) := by decide +kernel
theorem dL_law_662 : decode code 662 = .ok (.aload_n 2, 1) := by decide +kernel
theorem dL_law_663 : decode code 663 = .ok (.aload_n 0, 1) := by decide +kernel
theorem dL_law_664 : decode code 664 = .ok (.iload 4, 2) := by decide +kernel
theorem dL_law_666 : decode code 666 = .ok (.iconst 1, 1) := by decide +kernel
theorem dL_law_667 : decode code 667 = .ok (.iadd, 1) := by decide +kernel
theorem dL_law_668 : decode code 668 = .ok (.iaload, 1) := by decide +kernel
theorem dL_law_669 : decode code 669 = .ok (.aload_n 0, 1) := by decide +kernel
theorem dL_law_670 : decode code 670 = .ok (.iload 4, 2) := by decide +kernel
theorem dL_law_672 : decode code 672 = .ok (.iconst 2, 1) := by decide +kernel
theorem dL_law_673 : decode code 673 = .ok (.iadd, 1) := by decide +kernel
theorem dL_law_674 : decode code 674 = .ok (.iaload, 1) := by decide +kernel
theorem dL_law_675 : decode code 675 = .ok (.invokevirtual 85, 3) := by decide +kernel
theorem dL_law_678 : decode code 678 = .ok (.if_icmp .eq 1050, 3) := by decide +kernel
theorem LC_12 {κ : Nat → Nat → List Value → List Value → m2M → Prop} {mx D L n i : Nat} {xs : Nat → Int32} {μ : m2M} (h : m2_LW κ mx (D + 1) L xs) (hn : n ≤ mx) (hi : i + 7 ≤ L) (hL : L ≤ 3584) (hD : 420 ≤ D) (hR : REL μ) (k : ∀ μ', REL μ' → κ n 1728 [.ref 1002, .ref kC, .ref kM, .ref kOut, .int (nI i), .null, .null, .null] [] μ') : κ n 646 [.ref 1002, .ref kC, .ref kM, .ref kOut, .int (nI i), .null, .null, .null] [] μ := by
  have hB := h.b hn
  refine m2_aload_n hB dL_law_646 rfl ?_
  refine m2_aload_n hB dL_law_647 rfl ?_
  refine m2_iload hB dL_law_648 rfl ?_
  refine m2_iconst hB dL_law_650 (v := 1) (by decide) ?_
  refine m2_iadd hB dL_law_651 ?_
  refine h.ld (lw_in hi hL (show 1 < 7 by decide)) dL_law_652 ?_
  refine m2_aload_n hB dL_law_653 rfl ?_
  refine m2_iload hB dL_law_654 rfl ?_
  refine m2_iconst hB dL_law_656 (v := 2) (by decide) ?_
  refine m2_iadd hB dL_law_657 ?_
  refine h.ld (lw_in hi hL (show 2 < 7 by decide)) dL_law_658 ?_
  refine m2_inv hB (as := [.int (xs (nI i + 1).toNatClampNeg), .int (xs (nI i + 2).toNatClampNeg)]) (st := []) dL_law_659 mv_L_82 rfl sh_kC rfl (by decide) rfl (T_goes (by omega) _ _ μ hR) (fun r μ1 hr hM => ?_)
  obtain ⟨y, rfl⟩ := hr
  refine m2_aload_n hB dL_law_662 rfl ?_
  refine m2_aload_n hB dL_law_663 rfl ?_
  refine m2_iload hB dL_law_664 rfl ?_
  refine m2_iconst hB dL_law_666 (v := 1) (by decide) ?_
  refine m2_iadd hB dL_law_667 ?_
  refine h.ld (lw_in hi hL (show 1 < 7 by decide)) dL_law_668 ?_
  refine m2_aload_n hB dL_law_669 rfl ?_
  refine m2_iload hB dL_law_670 rfl ?_
  refine m2_iconst hB dL_law_672 (v := 2) (by decide) ?_
  refine m2_iadd hB dL_law_673 ?_
  refine h.ld (lw_in hi hL (show 2 < 7 by decide)) dL_law_674 ?_
  refine m2_inv hB (as := [.int (xs (nI i + 1).toNatClampNeg), .int (xs (nI i + 2).toNatClampNeg)]) (st := [.int y]) dL_law_675 mv_L_85 rfl sh_kM rfl (ble rfl) rfl hM (fun r2 μ2 hr2 hq => ?_)
  obtain ⟨rfl, hR2⟩ := hq
  exact m2_icmp_eq hB dL_law_678 (tgt := 1728) (by decide) (fun _ => k μ2 hR2) (fun q => absurd rfl q)
theorem dL_law_683 : decode code 683 = .ok (.aload_n 1, 1) := by decide +kernel
theorem dL_law_684 : decode code 684 = .ok (.aload_n 0, 1) := by decide +kernel
theorem dL_law_685 : decode code 685 = .ok (.iload 4, 2) := by decide +kernel
theorem dL_law_687 : decode code 687 = .ok (.iconst 1, 1) := by decide +kernel
theorem dL_law_688 : decode code 688 = .ok (.iadd, 1) := by decide +kernel
theorem dL_law_689 : decode code 689 = .ok (.iaload, 1) := by decide +kernel
theorem dL_law_690 : decode code 690 = .ok (.aload_n 0, 1) := by decide +kernel
theorem dL_law_691 : decode code 691 = .ok (.iload 4, 2) := by decide +kernel
theorem dL_law_693 : decode code 693 = .ok (.iconst 2, 1) := by decide +kernel
theorem dL_law_694 : decode code 694 = .ok (.iadd, 1) := by decide +kernel
theorem dL_law_695 : decode code 695 = .ok (.iaload, 1) := by decide +kernel
theorem dL_law_696 : decode code 696 = .ok (.invokevirtual 86, 3) := by decide +kernel
theorem dL_law_699 : decode code 699 = .ok (.aload_n 2, 1) := by decide +kernel
theorem dL_law_700 : decode code 700 = .ok (.aload_n 0, 1) := by decide +kernel
theorem dL_law_701 : decode code 701 = .ok (.iload 4, 2) := by decide +kernel
theorem dL_law_703 : decode code 703 = .ok (.iconst 1, 1) := by decide +kernel
theorem dL_law_704 : decode code 704 = .ok (.iadd, 1) := by decide +kernel
theorem dL_law_705 : decode code 705 = .ok (.iaload, 1) := by decide +kernel
theorem dL_law_706 : decode code 706 = .ok (.aload_n 0, 1) := by decide +kernel
theorem dL_law_707 : decode code 707 = .ok (.iload 4, 2) := by decide +kernel
theorem dL_law_709 : decode code 709 = .ok (.iconst 2, 1) := by decide +kernel
theorem dL_law_710 : decode code 710 = .ok (.iadd, 1) := by decide +kernel
theorem dL_law_711 : decode code 711 = .ok (.iaload, 1) := by decide +kernel
theorem dL_law_712 : decode code 712 = .ok (.invokevirtual 89, 3) := by decide +kernel
theorem dL_law_715 : decode code 715 = .ok (.if_icmp .eq 1013, 3) := by decide +kernel
theorem LC_13 {κ : Nat → Nat → List Value → List Value → m2M → Prop} {mx D L n i : Nat} {xs : Nat → Int32} {μ : m2M} (h : m2_LW κ mx (D + 1) L xs) (hn : n ≤ mx) (hi : i + 7 ≤ L) (hL : L ≤ 3584) (hD : 420 ≤ D) (hR : REL μ) (k : ∀ μ', REL μ' → κ n 1728 [.ref 1002, .ref kC, .ref kM, .ref kOut, .int (nI i), .null, .null, .null] [] μ') : κ n 683 [.ref 1002, .ref kC, .ref kM, .ref kOut, .int (nI i), .null, .null, .null] [] μ := by
  have hB := h.b hn
  refine m2_aload_n hB dL_law_683 rfl ?_
  refine m2_aload_n hB dL_law_684 rfl ?_
  refine m2_iload hB dL_law_685 rfl ?_
  refine m2_iconst hB dL_law_687 (v := 1) (by decide) ?_
  refine m2_iadd hB dL_law_688 ?_
  refine h.ld (lw_in hi hL (show 1 < 7 by decide)) dL_law_689 ?_
  refine m2_aload_n hB dL_law_690 rfl ?_
  refine m2_iload hB dL_law_691 rfl ?_
  refine m2_iconst hB dL_law_693 (v := 2) (by decide) ?_
  refine m2_iadd hB dL_law_694 ?_
  refine h.ld (lw_in hi hL (show 2 < 7 by decide)) dL_law_695 ?_
  refine m2_inv hB (as := [.int (xs (nI i + 1).toNatClampNeg), .int (xs (nI i + 2).toNatClampNeg)]) (st := []) dL_law_696 mv_L_86 rfl sh_kC rfl (by decide) rfl (T_priced (by omega) _ _ μ hR) (fun r μ1 hr hM => ?_)
  obtain ⟨y, rfl⟩ := hr
  refine m2_aload_n hB dL_law_699 rfl ?_
  refine m2_aload_n hB dL_law_700 rfl ?_
  refine m2_iload hB dL_law_701 rfl ?_
  refine m2_iconst hB dL_law_703 (v := 1) (by decide) ?_
  refine m2_iadd hB dL_law_704 ?_
  refine h.ld (lw_in hi hL (show 1 < 7 by decide)) dL_law_705 ?_
  refine m2_aload_n hB dL_law_706 rfl ?_
  refine m2_iload hB dL_law_707 rfl ?_
  refine m2_iconst hB dL_law_709 (v := 2) (by decide) ?_
  refine m2_iadd hB dL_law_710 ?_
  refine h.ld (lw_in hi hL (show 2 < 7 by decide)) dL_law_711 ?_
  refine m2_inv hB (as := [.int (xs (nI i + 1).toNatClampNeg), .int (xs (nI i + 2).toNatClampNeg)]) (st := [.int y]) dL_law_712 mv_L_89 rfl sh_kM rfl (ble rfl) rfl hM (fun r2 μ2 hr2 hq => ?_)
  obtain ⟨rfl, hR2⟩ := hq
  exact m2_icmp_eq hB dL_law_715 (tgt := 1728) (by decide) (fun _ => k μ2 hR2) (fun q => absurd rfl q)
theorem dL_law_720 : decode code 720 = .ok (.aload_n 1, 1) := by decide +kernel
theorem dL_law_721 : decode code 721 = .ok (.aload_n 0, 1) := by decide +kernel
theorem dL_law_722 : decode code 722 = .ok (.iload 4, 2) := by decide +kernel
theorem dL_law_724 : decode code 724 = .ok (.iconst 1, 1) := by decide +kernel
theorem dL_law_725 : decode code 725 = .ok (.iadd, 1) := by decide +kernel
theorem dL_law_726 : decode code 726 = .ok (.iaload, 1) := by decide +kernel
theorem dL_law_727 : decode code 727 = .ok (.aload_n 0, 1) := by decide +kernel
theorem dL_law_728 : decode code 728 = .ok (.iload 4, 2) := by decide +kernel
theorem dL_law_730 : decode code 730 = .ok (.iconst 2, 1) := by decide +kernel
theorem dL_law_731 : decode code 731 = .ok (.iadd, 1) := by decide +kernel
theorem dL_law_732 : decode code 732 = .ok (.iaload, 1) := by decide +kernel
theorem dL_law_733 : decode code 733 = .ok (.invokevirtual 90, 3) := by decide +kernel
theorem dL_law_736 : decode code 736 = .ok (.aload_n 2, 1) := by decide +kernel
theorem dL_law_737 : decode code 737 = .ok (.aload_n 0, 1) := by decide +kernel
theorem dL_law_738 : decode code 738 = .ok (.iload 4, 2) := by decide +kernel
theorem dL_law_740 : decode code 740 = .ok (.iconst 1, 1) := by decide +kernel
theorem dL_law_741 : decode code 741 = .ok (.iadd, 1) := by decide +kernel
theorem dL_law_742 : decode code 742 = .ok (.iaload, 1) := by decide +kernel
theorem dL_law_743 : decode code 743 = .ok (.aload_n 0, 1) := by decide +kernel
theorem dL_law_744 : decode code 744 = .ok (.iload 4, 2) := by decide +kernel
theorem dL_law_746 : decode code 746 = .ok (.iconst 2, 1) := by decide +kernel
theorem dL_law_747 : decode code 747 = .ok (.iadd, 1) := by decide +kernel
theorem dL_law_748 : decode code 748 = .ok (.iaload, 1) := by decide +kernel
theorem dL_law_749 : decode code 749 = .ok (.invokevirtual 93, 3) := by decide +kernel
theorem dL_law_752 : decode code 752 = .ok (.if_icmp .eq 976, 3) := by decide +kernel
theorem LC_14 {κ : Nat → Nat → List Value → List Value → m2M → Prop} {mx D L n i : Nat} {xs : Nat → Int32} {μ : m2M} (h : m2_LW κ mx (D + 1) L xs) (hn : n ≤ mx) (hi : i + 7 ≤ L) (hL : L ≤ 3584) (hD : 420 ≤ D) (hR : REL μ) (k : ∀ μ', REL μ' → κ n 1728 [.ref 1002, .ref kC, .ref kM, .ref kOut, .int (nI i), .null, .null, .null] [] μ') : κ n 720 [.ref 1002, .ref kC, .ref kM, .ref kOut, .int (nI i), .null, .null, .null] [] μ := by
  have hB := h.b hn
  refine m2_aload_n hB dL_law_720 rfl ?_
  refine m2_aload_n hB dL_law_721 rfl ?_
  refine m2_iload hB dL_law_722 rfl ?_
  refine m2_iconst hB dL_law_724 (v := 1) (by decide) ?_
  refine m2_iadd hB dL_law_725 ?_
  refine h.ld (lw_in hi hL (show 1 < 7 by decide)) dL_law_726 ?_
  refine m2_aload_n hB dL_law_727 rfl ?_
  refine m2_iload hB dL_law_728 rfl ?_
  refine m2_iconst hB dL_law_730 (v := 2) (by decide) ?_
  refine m2_iadd hB dL_law_731 ?_
  refine h.ld (lw_in hi hL (show 2 < 7 by decide)) dL_law_732 ?_
  refine m2_inv hB (as := [.int (xs (nI i + 1).toNatClampNeg), .int (xs (nI i + 2).toNatClampNeg)]) (st := []) dL_law_733 mv_L_90 rfl sh_kC rfl (by decide) rfl (T_fro (by omega) _ _ μ hR) (fun r μ1 hr hM => ?_)
  obtain ⟨y, rfl⟩ := hr
  refine m2_aload_n hB dL_law_736 rfl ?_
  refine m2_aload_n hB dL_law_737 rfl ?_
  refine m2_iload hB dL_law_738 rfl ?_
  refine m2_iconst hB dL_law_740 (v := 1) (by decide) ?_
  refine m2_iadd hB dL_law_741 ?_
  refine h.ld (lw_in hi hL (show 1 < 7 by decide)) dL_law_742 ?_
  refine m2_aload_n hB dL_law_743 rfl ?_
  refine m2_iload hB dL_law_744 rfl ?_
  refine m2_iconst hB dL_law_746 (v := 2) (by decide) ?_
  refine m2_iadd hB dL_law_747 ?_
  refine h.ld (lw_in hi hL (show 2 < 7 by decide)) dL_law_748 ?_
  refine m2_inv hB (as := [.int (xs (nI i + 1).toNatClampNeg), .int (xs (nI i + 2).toNatClampNeg)]) (st := [.int y]) dL_law_749 mv_L_93 rfl sh_kM rfl (ble rfl) rfl hM (fun r2 μ2 hr2 hq => ?_)
  obtain ⟨rfl, hR2⟩ := hq
  exact m2_icmp_eq hB dL_law_752 (tgt := 1728) (by decide) (fun _ => k μ2 hR2) (fun q => absurd rfl q)
theorem dL_law_757 : decode code 757 = .ok (.aload_n 1, 1) := by decide +kernel
theorem dL_law_758 : decode code 758 = .ok (.invokevirtual 94, 3) := by decide +kernel
theorem dL_law_761 : decode code 761 = .ok (.aload_n 2, 1) := by decide +kernel
theorem dL_law_762 : decode code 762 = .ok (.invokevirtual 97, 3) := by decide +kernel
theorem dL_law_765 : decode code 765 = .ok (.if_icmp .eq 963, 3) := by decide +kernel
theorem LC_15 {κ : Nat → Nat → List Value → List Value → m2M → Prop} {mx D L n i : Nat} {xs : Nat → Int32} {μ : m2M} (h : m2_LW κ mx (D + 1) L xs) (hn : n ≤ mx) (hi : i + 7 ≤ L) (hL : L ≤ 3584) (hD : 420 ≤ D) (hR : REL μ) (k : ∀ μ', REL μ' → κ n 1728 [.ref 1002, .ref kC, .ref kM, .ref kOut, .int (nI i), .null, .null, .null] [] μ') : κ n 757 [.ref 1002, .ref kC, .ref kM, .ref kOut, .int (nI i), .null, .null, .null] [] μ := by
  have hB := h.b hn
  refine m2_aload_n hB dL_law_757 rfl ?_
  refine m2_inv hB (as := []) (st := []) dL_law_758 mv_L_94 rfl sh_kC rfl (by decide) rfl (T_crowd (by omega) μ hR) (fun r μ1 hr hM => ?_)
  obtain ⟨y, rfl⟩ := hr
  refine m2_aload_n hB dL_law_761 rfl ?_
  refine m2_inv hB (as := []) (st := [.int y]) dL_law_762 mv_L_97 rfl sh_kM rfl (ble rfl) rfl hM (fun r2 μ2 hr2 hq => ?_)
  obtain ⟨rfl, hR2⟩ := hq
  exact m2_icmp_eq hB dL_law_765 (tgt := 1728) (by decide) (fun _ => k μ2 hR2) (fun q => absurd rfl q)
