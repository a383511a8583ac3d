/-! THE CASES of the law (by program) -/
theorem lc_0 {Ω : mO} {Z : mZ} {n i : Int} {D : mD} {c0 k0 : Nat} (hi : 0 ≤ i ∧ i + 6 ≤ oPn Ω ∧ oPn Ω ≤ 3072) (I : INV n D) (hn : 0 ≤ n ∧ n ≤ 90000) (hc : c0 + 2 ≤ 601024) (hk : k0 + 12 ≤ 7293034) (kk : ∀ F, INV (n + 1) F → JL Ω Z 2818 (LSm i) [] F (c0 + 2) (k0 + 12)) : JL Ω Z 256 (LSm i) [] D c0 k0 := by
  obtain ⟨E, v, F, h1, h2, I'⟩ := a_feed I sxR sxR sxR sxR sxR
  refine j_aload_n (pc' := 257) dL_law__256 rfl rfl ?_
  refine j_arg (pc' := 263) (j := 1) dL_law__257 dL_law__258 dL_law__260 dL_law__261 dL_law__262 rfl rfl rfl hi (by decide) ?_
  refine j_arg (pc' := 269) (j := 2) dL_law__263 dL_law__264 dL_law__266 dL_law__267 dL_law__268 rfl rfl rfl hi (by decide) ?_
  refine j_arg (pc' := 275) (j := 3) dL_law__269 dL_law__270 dL_law__272 dL_law__273 dL_law__274 rfl rfl rfl hi (by decide) ?_
  refine j_arg (pc' := 281) (j := 4) dL_law__275 dL_law__276 dL_law__278 dL_law__279 dL_law__280 rfl rfl rfl hi (by decide) ?_
  refine j_arg (pc' := 287) (j := 5) dL_law__281 dL_law__282 dL_law__284 dL_law__285 dL_law__286 rfl rfl rfl hi (by decide) ?_
  refine k_cV (pc' := 290) (d' := 99) [mI (sx Ω (i + 1)), mI (sx Ω (i + 2)), mI (sx Ω (i + 3)), mI (sx Ω (i + 4)), mI (sx Ω (i + 5))] [] (c_X11_feed (d := 99) (by decide) h1) cw_L_128 kc_10 w_443 w_444 dL_law__287 rfl (by decide) rfl rfl (by decide) sk_0 rfl rfl (by omega) (by omega) ?_
  refine j_aload_n (pc' := 291) dL_law__290 rfl rfl ?_
  refine j_arg (pc' := 297) (j := 1) dL_law__291 dL_law__292 dL_law__294 dL_law__295 dL_law__296 rfl rfl rfl hi (by decide) ?_
  refine j_arg (pc' := 303) (j := 2) dL_law__297 dL_law__298 dL_law__300 dL_law__301 dL_law__302 rfl rfl rfl hi (by decide) ?_
  refine j_arg (pc' := 309) (j := 3) dL_law__303 dL_law__304 dL_law__306 dL_law__307 dL_law__308 rfl rfl rfl hi (by decide) ?_
  refine j_arg (pc' := 315) (j := 4) dL_law__309 dL_law__310 dL_law__312 dL_law__313 dL_law__314 rfl rfl rfl hi (by decide) ?_
  refine j_arg (pc' := 321) (j := 5) dL_law__315 dL_law__316 dL_law__318 dL_law__319 dL_law__320 rfl rfl rfl hi (by decide) ?_
  refine k_cV (pc' := 324) (d' := 99) [mI (sx Ω (i + 1)), mI (sx Ω (i + 2)), mI (sx Ω (i + 3)), mI (sx Ω (i + 4)), mI (sx Ω (i + 5))] [mI v] (c_X12_feed (d := 99) (by decide) h2) cw_L_132 kc_11 w_1575 w_1576 dL_law__321 rfl (by decide) rfl rfl (by decide) sk_133 rfl rfl (by omega) (by omega) ?_
  refine j_icmp_same (tgt := 2818) dL_law__324 rfl ?_
  exact j_widen (by omega) (by omega) (kk F I')
theorem lc_1 {Ω : mO} {Z : mZ} {n i : Int} {D : mD} {c0 k0 : Nat} (hi : 0 ≤ i ∧ i + 6 ≤ oPn Ω ∧ oPn Ω ≤ 3072) (I : INV n D) (hn : 0 ≤ n ∧ n ≤ 90000) (hc : c0 + 2 ≤ 601024) (hk : k0 + 12 ≤ 7293034) (kk : ∀ F, INV (n + 1) F → JL Ω Z 2818 (LSm i) [] F (c0 + 2) (k0 + 12)) : JL Ω Z 329 (LSm i) [] D c0 k0 := by
  obtain ⟨E, v, F, h1, h2, I'⟩ := a_end I sxR
  refine j_aload_n (pc' := 330) dL_law__329 rfl rfl ?_
  refine j_arg (pc' := 336) (j := 1) dL_law__330 dL_law__331 dL_law__333 dL_law__334 dL_law__335 rfl rfl rfl hi (by decide) ?_
  refine k_cV (pc' := 339) (d' := 99) [mI (sx Ω (i + 1))] [] (c_X11_end (d := 99) (by decide) h1) cw_L_133 kc_10 w_455 w_456 dL_law__336 rfl (by decide) rfl rfl (by decide) sk_0 rfl rfl (by omega) (by omega) ?_
  refine j_aload_n (pc' := 340) dL_law__339 rfl rfl ?_
  refine j_arg (pc' := 346) (j := 1) dL_law__340 dL_law__341 dL_law__343 dL_law__344 dL_law__345 rfl rfl rfl hi (by decide) ?_
  refine k_cV (pc' := 349) (d' := 99) [mI (sx Ω (i + 1))] [mI v] (c_X12_end (d := 99) (by decide) h2) cw_L_137 kc_11 w_1579 w_1580 dL_law__346 rfl (by decide) rfl rfl (by decide) sk_133 rfl rfl (by omega) (by omega) ?_
  refine j_icmp_same (tgt := 2818) dL_law__349 rfl ?_
  exact j_widen (by omega) (by omega) (kk F I')
theorem lc_2 {Ω : mO} {Z : mZ} {n i : Int} {D : mD} {c0 k0 : Nat} (hi : 0 ≤ i ∧ i + 6 ≤ oPn Ω ∧ oPn Ω ≤ 3072) (I : INV n D) (hn : 0 ≤ n ∧ n ≤ 90000) (hc : c0 + 2 ≤ 601024) (hk : k0 + 12 ≤ 7293034) (kk : ∀ F, INV (n + 1) F → JL Ω Z 2818 (LSm i) [] F (c0 + 2) (k0 + 12)) : JL Ω Z 354 (LSm i) [] D c0 k0 := by
  obtain ⟨r, E, v, F, h1, h2, A, I'⟩ := a_shop I
  refine j_aload_n (pc' := 355) dL_law__354 rfl rfl ?_
  refine j_aload_n (pc' := 356) dL_law__355 rfl rfl ?_
  refine j_callSX (pc' := 359) (as := [mR 0, mR 148]) (rest := []) (d' := 99) (c' := 1) (k' := 6) (cl_shop h1 A) cx_L_138 dL_law__356 rfl (by decide) rfl rfl rfl rfl (by omega) (by omega) ?_
  refine j_istore (pc' := 361) (ls' := [some (mR 2000000), some (mR 0), some (mR 133), some (mR 148), some (mI i), some (mI (F 133 0)), none]) dL_law__359 rfl (by decide) rfl ?_
  refine j_aload_n (pc' := 362) dL_law__361 rfl rfl ?_
  have h3 : F_X12_shop (oD E (wg E r)) = some (v, oD F (wg E r)) := by rw [fr_F_X12_shop, h2]; rfl
  refine k_cV (pc' := 365) (d' := 99) [] [] (c_X12_shop (d := 99) (by decide) h3) cw_L_143 kc_11 w_1587 w_1588 dL_law__362 rfl (by decide) rfl rfl (by decide) sk_133 rfl rfl (by omega) (by omega) ?_
  exact lb_tail (pc := 365) A (by decide) wg_g dL_law__365 dL_law__367 dL_law__368 dL_law__371 dL_law__373 dL_law__378 dL_law__380 dL_law__383 dL_law__384 dL_law__385 dL_law__386 dL_law__388 dL_law__389 dL_law__390 dL_law__395 (by decide) (by omega) (by omega) (j_widen (by omega) (by omega) (kk _ (I'.okD _)))
theorem lc_3 {Ω : mO} {Z : mZ} {n i : Int} {D : mD} {c0 k0 : Nat} (hi : 0 ≤ i ∧ i + 6 ≤ oPn Ω ∧ oPn Ω ≤ 3072) (I : INV n D) (hn : 0 ≤ n ∧ n ≤ 90000) (hc : c0 + 2 ≤ 601024) (hk : k0 + 12 ≤ 7293034) (kk : ∀ F, INV (n + 1) F → JL Ω Z 2818 (LSm i) [] F (c0 + 2) (k0 + 12)) : JL Ω Z 398 (LSm i) [] D c0 k0 := by
  obtain ⟨r, E, v, F, h1, h2, A, I'⟩ := a_law I
  refine j_aload_n (pc' := 399) dL_law__398 rfl rfl ?_
  refine j_aload_n (pc' := 400) dL_law__399 rfl rfl ?_
  refine j_callSX (pc' := 403) (as := [mR 0, mR 148]) (rest := []) (d' := 99) (c' := 1) (k' := 6) (cl_law h1 A) cx_L_147 dL_law__400 rfl (by decide) rfl rfl rfl rfl (by omega) (by omega) ?_
  refine j_istore (pc' := 405) (ls' := [some (mR 2000000), some (mR 0), some (mR 133), some (mR 148), some (mI i), some (mI (F 133 0)), none]) dL_law__403 rfl (by decide) rfl ?_
  refine j_aload_n (pc' := 406) dL_law__405 rfl rfl ?_
  have h3 : F_X12_law (oD E (wg E r)) = some (v, oD F (wg E r)) := by rw [fr_F_X12_law, h2]; rfl
  refine k_cV (pc' := 409) (d' := 99) [] [] (c_X12_law (d := 99) (by decide) h3) cw_L_149 kc_11 w_1756 w_1757 dL_law__406 rfl (by decide) rfl rfl (by decide) sk_133 rfl rfl (by omega) (by omega) ?_
  exact lb_tail (pc := 409) A (by decide) wg_g dL_law__409 dL_law__411 dL_law__412 dL_law__415 dL_law__417 dL_law__422 dL_law__424 dL_law__427 dL_law__428 dL_law__429 dL_law__430 dL_law__432 dL_law__433 dL_law__434 dL_law__439 (by decide) (by omega) (by omega) (j_widen (by omega) (by omega) (kk _ (I'.okD _)))
theorem lc_4 {Ω : mO} {Z : mZ} {n i : Int} {D : mD} {c0 k0 : Nat} (hi : 0 ≤ i ∧ i + 6 ≤ oPn Ω ∧ oPn Ω ≤ 3072) (I : INV n D) (hn : 0 ≤ n ∧ n ≤ 90000) (hc : c0 + 2 ≤ 601024) (hk : k0 + 12 ≤ 7293034) (kk : ∀ F, INV (n + 1) F → JL Ω Z 2818 (LSm i) [] F (c0 + 2) (k0 + 12)) : JL Ω Z 442 (LSm i) [] D c0 k0 := by
  obtain ⟨E, v, F, h1, h2, I'⟩ := a_fault I
  refine j_aload_n (pc' := 443) dL_law__442 rfl rfl ?_
  refine k_cV (pc' := 446) (d' := 99) [] [] (c_X11_fault (d := 99) (by decide) h1) cw_L_150 kc_10 w_459 w_460 dL_law__443 rfl (by decide) rfl rfl (by decide) sk_0 rfl rfl (by omega) (by omega) ?_
  refine j_aload_n (pc' := 447) dL_law__446 rfl rfl ?_
  refine k_cV (pc' := 450) (d' := 99) [] [mI v] (c_X12_fault (d := 99) (by decide) h2) cw_L_153 kc_11 w_1583 w_1584 dL_law__447 rfl (by decide) rfl rfl (by decide) sk_133 rfl rfl (by omega) (by omega) ?_
  refine j_icmp_same (tgt := 2818) dL_law__450 rfl ?_
  exact j_widen (by omega) (by omega) (kk F I')
theorem lc_5 {Ω : mO} {Z : mZ} {n i : Int} {D : mD} {c0 k0 : Nat} (hi : 0 ≤ i ∧ i + 6 ≤ oPn Ω ∧ oPn Ω ≤ 3072) (I : INV n D) (hn : 0 ≤ n ∧ n ≤ 90000) (hc : c0 + 2 ≤ 601024) (hk : k0 + 12 ≤ 7293034) (kk : ∀ F, INV (n + 1) F → JL Ω Z 2818 (LSm i) [] F (c0 + 2) (k0 + 12)) : JL Ω Z 455 (LSm i) [] D c0 k0 := by
  obtain ⟨r, E, v, F, h1, h2, A, I'⟩ := Ans.step I (q_sign I.1 sxR sxR)
  refine j_aload_n (pc' := 456) dL_law__455 rfl rfl ?_
  refine j_arg (pc' := 462) (j := 1) dL_law__456 dL_law__457 dL_law__459 dL_law__460 dL_law__461 rfl rfl rfl hi (by decide) ?_
  refine j_arg (pc' := 468) (j := 2) dL_law__462 dL_law__463 dL_law__465 dL_law__466 dL_law__467 rfl rfl rfl hi (by decide) ?_
  refine j_aload_n (pc' := 469) dL_law__468 rfl rfl ?_
  refine j_callSX (pc' := 472) (as := [mR 0, mI (sx Ω (i + 1)), mI (sx Ω (i + 2)), mR 148]) (rest := []) (d' := 99) (c' := 2) (k' := 12) (cl_sign h1 A) cx_L_154 dL_law__469 rfl (by decide) rfl rfl rfl rfl (by omega) (by omega) ?_
  refine j_istore (pc' := 474) (ls' := [some (mR 2000000), some (mR 0), some (mR 133), some (mR 148), some (mI i), some (mI (F 133 0)), none]) dL_law__472 rfl (by decide) rfl ?_
  refine j_aload_n (pc' := 475) dL_law__474 rfl rfl ?_
  refine j_arg (pc' := 481) (j := 1) dL_law__475 dL_law__476 dL_law__478 dL_law__479 dL_law__480 rfl rfl rfl hi (by decide) ?_
  refine j_arg (pc' := 487) (j := 2) dL_law__481 dL_law__482 dL_law__484 dL_law__485 dL_law__486 rfl rfl rfl hi (by decide) ?_
  have h3 : F_X12_sign (sx Ω (i + 1)) (sx Ω (i + 2)) (oD E (wg E r)) = some (v, oD F (wg E r)) := by rw [fr_F_X12_sign, h2]; rfl
  refine k_cV (pc' := 490) (d' := 99) [mI (sx Ω (i + 1)), mI (sx Ω (i + 2))] [] (c_X12_sign (d := 99) (by decide) h3) cw_L_157 kc_11 w_1760 w_1761 dL_law__487 rfl (by decide) rfl rfl (by decide) sk_133 rfl rfl (by omega) (by omega) ?_
  exact lb_tail (pc := 490) A (by decide) wg_g dL_law__490 dL_law__492 dL_law__493 dL_law__496 dL_law__498 dL_law__503 dL_law__505 dL_law__508 dL_law__509 dL_law__510 dL_law__511 dL_law__513 dL_law__514 dL_law__515 dL_law__520 (by decide) (by omega) (by omega) (j_widen (by omega) (by omega) (kk _ (I'.okD _)))
theorem lc_6 {Ω : mO} {Z : mZ} {n i : Int} {D : mD} {c0 k0 : Nat} (hi : 0 ≤ i ∧ i + 6 ≤ oPn Ω ∧ oPn Ω ≤ 3072) (I : INV n D) (hn : 0 ≤ n ∧ n ≤ 90000) (hc : c0 + 2 ≤ 601024) (hk : k0 + 12 ≤ 7293034) (kk : ∀ F, INV (n + 1) F → JL Ω Z 2818 (LSm i) [] F (c0 + 2) (k0 + 12)) : JL Ω Z 523 (LSm i) [] D c0 k0 := by
  obtain ⟨r, E, v, F, h1, h2, A, I'⟩ := Ans.step I (q_side I.1 sxR sxR bz01)
  refine j_aload_n (pc' := 524) dL_law__523 rfl rfl ?_
  refine j_arg (pc' := 530) (j := 1) dL_law__524 dL_law__525 dL_law__527 dL_law__528 dL_law__529 rfl rfl rfl hi (by decide) ?_
  refine j_arg (pc' := 536) (j := 2) dL_law__530 dL_law__531 dL_law__533 dL_law__534 dL_law__535 rfl rfl rfl hi (by decide) ?_
  refine j_arg (pc' := 542) (j := 3) dL_law__536 dL_law__537 dL_law__539 dL_law__540 dL_law__541 rfl rfl rfl hi (by decide) ?_
  refine j_flag (pc' := 550) dL_law__542 dL_law__545 dL_law__546 dL_law__549 rfl sxR ?_
  refine j_aload_n (pc' := 551) dL_law__550 rfl rfl ?_
  refine j_callSX (pc' := 554) (as := [mR 0, mI (sx Ω (i + 1)), mI (sx Ω (i + 2)), mI (bz (sx Ω (i + 3))), mR 148]) (rest := []) (d' := 99) (c' := 2) (k' := 12) (cl_side h1 A) cx_L_158 dL_law__551 rfl (by decide) rfl rfl rfl rfl (by omega) (by omega) ?_
  refine j_istore (pc' := 556) (ls' := [some (mR 2000000), some (mR 0), some (mR 133), some (mR 148), some (mI i), some (mI (F 133 0)), none]) dL_law__554 rfl (by decide) rfl ?_
  refine j_aload_n (pc' := 557) dL_law__556 rfl rfl ?_
  refine j_arg (pc' := 563) (j := 1) dL_law__557 dL_law__558 dL_law__560 dL_law__561 dL_law__562 rfl rfl rfl hi (by decide) ?_
  refine j_arg (pc' := 569) (j := 2) dL_law__563 dL_law__564 dL_law__566 dL_law__567 dL_law__568 rfl rfl rfl hi (by decide) ?_
  refine j_arg (pc' := 575) (j := 3) dL_law__569 dL_law__570 dL_law__572 dL_law__573 dL_law__574 rfl rfl rfl hi (by decide) ?_
  refine j_flag (pc' := 583) dL_law__575 dL_law__578 dL_law__579 dL_law__582 rfl sxR ?_
  have h3 : F_X12_side (sx Ω (i + 1)) (sx Ω (i + 2)) (bz (sx Ω (i + 3))) (oD E (wg E r)) = some (v, oD F (wg E r)) := by rw [fr_F_X12_side, h2]; rfl
  refine k_cV (pc' := 586) (d' := 99) [mI (sx Ω (i + 1)), mI (sx Ω (i + 2)), mI (bz (sx Ω (i + 3)))] [] (c_X12_side (d := 99) (by decide) h3) cw_L_161 kc_11 w_1775 w_1776 dL_law__583 rfl (by decide) rfl rfl (by decide) sk_133 rfl rfl (by omega) (by omega) ?_
  exact lb_tail (pc := 586) A (by decide) wg_g dL_law__586 dL_law__588 dL_law__589 dL_law__592 dL_law__594 dL_law__599 dL_law__601 dL_law__604 dL_law__605 dL_law__606 dL_law__607 dL_law__609 dL_law__610 dL_law__611 dL_law__616 (by decide) (by omega) (by omega) (j_widen (by omega) (by omega) (kk _ (I'.okD _)))
theorem lc_7 {Ω : mO} {Z : mZ} {n i : Int} {D : mD} {c0 k0 : Nat} (hi : 0 ≤ i ∧ i + 6 ≤ oPn Ω ∧ oPn Ω ≤ 3072) (I : INV n D) (hn : 0 ≤ n ∧ n ≤ 90000) (hc : c0 + 2 ≤ 601024) (hk : k0 + 12 ≤ 7293034) (kk : ∀ F, INV (n + 1) F → JL Ω Z 2818 (LSm i) [] F (c0 + 2) (k0 + 12)) : JL Ω Z 619 (LSm i) [] D c0 k0 := by
  obtain ⟨r, E, v, F, h1, h2, A, I'⟩ := Ans.step I (q_letter I.1 sxR sxR)
  refine j_aload_n (pc' := 620) dL_law__619 rfl rfl ?_
  refine j_arg (pc' := 626) (j := 1) dL_law__620 dL_law__621 dL_law__623 dL_law__624 dL_law__625 rfl rfl rfl hi (by decide) ?_
  refine j_arg (pc' := 632) (j := 2) dL_law__626 dL_law__627 dL_law__629 dL_law__630 dL_law__631 rfl rfl rfl hi (by decide) ?_
  refine j_aload_n (pc' := 633) dL_law__632 rfl rfl ?_
  refine j_callSX (pc' := 636) (as := [mR 0, mI (sx Ω (i + 1)), mI (sx Ω (i + 2)), mR 148]) (rest := []) (d' := 99) (c' := 2) (k' := 12) (cl_letter h1 A) cx_L_162 dL_law__633 rfl (by decide) rfl rfl rfl rfl (by omega) (by omega) ?_
  refine j_istore (pc' := 638) (ls' := [some (mR 2000000), some (mR 0), some (mR 133), some (mR 148), some (mI i), some (mI (F 133 0)), none]) dL_law__636 rfl (by decide) rfl ?_
  refine j_aload_n (pc' := 639) dL_law__638 rfl rfl ?_
  refine j_arg (pc' := 645) (j := 1) dL_law__639 dL_law__640 dL_law__642 dL_law__643 dL_law__644 rfl rfl rfl hi (by decide) ?_
  refine j_arg (pc' := 651) (j := 2) dL_law__645 dL_law__646 dL_law__648 dL_law__649 dL_law__650 rfl rfl rfl hi (by decide) ?_
  have h3 : F_X12_letter (sx Ω (i + 1)) (sx Ω (i + 2)) (oD E (wg E r)) = some (v, oD F (wg E r)) := by rw [fr_F_X12_letter, h2]; rfl
  refine k_cV (pc' := 654) (d' := 99) [mI (sx Ω (i + 1)), mI (sx Ω (i + 2))] [] (c_X12_letter (d := 99) (by decide) h3) cw_L_164 kc_11 w_1779 w_1780 dL_law__651 rfl (by decide) rfl rfl (by decide) sk_133 rfl rfl (by omega) (by omega) ?_
  exact lb_tail (pc := 654) A (by decide) wg_g dL_law__654 dL_law__656 dL_law__657 dL_law__660 dL_law__662 dL_law__667 dL_law__669 dL_law__672 dL_law__673 dL_law__674 dL_law__675 dL_law__677 dL_law__678 dL_law__679 dL_law__684 (by decide) (by omega) (by omega) (j_widen (by omega) (by omega) (kk _ (I'.okD _)))
theorem lc_8 {Ω : mO} {Z : mZ} {n i : Int} {D : mD} {c0 k0 : Nat} (hi : 0 ≤ i ∧ i + 6 ≤ oPn Ω ∧ oPn Ω ≤ 3072) (I : INV n D) (hn : 0 ≤ n ∧ n ≤ 90000) (hc : c0 + 2 ≤ 601024) (hk : k0 + 12 ≤ 7293034) (kk : ∀ F, INV (n + 1) F → JL Ω Z 2818 (LSm i) [] F (c0 + 2) (k0 + 12)) : JL Ω Z 687 (LSm i) [] D c0 k0 := by
  obtain ⟨r, E, v, F, h1, h2, A, I'⟩ := Ans.step I (q_gap I.1 sxR sxR)
  refine j_aload_n (pc' := 688) dL_law__687 rfl rfl ?_
  refine j_arg (pc' := 694) (j := 1) dL_law__688 dL_law__689 dL_law__691 dL_law__692 dL_law__693 rfl rfl rfl hi (by decide) ?_
  refine j_arg (pc' := 700) (j := 2) dL_law__694 dL_law__695 dL_law__697 dL_law__698 dL_law__699 rfl rfl rfl hi (by decide) ?_
  refine j_aload_n (pc' := 701) dL_law__700 rfl rfl ?_
  refine j_callSX (pc' := 704) (as := [mR 0, mI (sx Ω (i + 1)), mI (sx Ω (i + 2)), mR 148]) (rest := []) (d' := 99) (c' := 2) (k' := 12) (cl_gap h1 A) cx_L_165 dL_law__701 rfl (by decide) rfl rfl rfl rfl (by omega) (by omega) ?_
  refine j_istore (pc' := 706) (ls' := [some (mR 2000000), some (mR 0), some (mR 133), some (mR 148), some (mI i), some (mI (F 133 0)), none]) dL_law__704 rfl (by decide) rfl ?_
  refine j_aload_n (pc' := 707) dL_law__706 rfl rfl ?_
  refine j_arg (pc' := 713) (j := 1) dL_law__707 dL_law__708 dL_law__710 dL_law__711 dL_law__712 rfl rfl rfl hi (by decide) ?_
  refine j_arg (pc' := 719) (j := 2) dL_law__713 dL_law__714 dL_law__716 dL_law__717 dL_law__718 rfl rfl rfl hi (by decide) ?_
  have h3 : F_X12_gap (sx Ω (i + 1)) (sx Ω (i + 2)) (oD E (wg E r)) = some (v, oD F (wg E r)) := by rw [fr_F_X12_gap, h2]; rfl
  refine k_cV (pc' := 722) (d' := 99) [mI (sx Ω (i + 1)), mI (sx Ω (i + 2))] [] (c_X12_gap (d := 99) (by decide) h3) cw_L_167 kc_11 w_1812 w_1813 dL_law__719 rfl (by decide) rfl rfl (by decide) sk_133 rfl rfl (by omega) (by omega) ?_
  exact lb_tail (pc := 722) A (by decide) wg_g dL_law__722 dL_law__724 dL_law__725 dL_law__728 dL_law__730 dL_law__735 dL_law__737 dL_law__740 dL_law__741 dL_law__742 dL_law__743 dL_law__745 dL_law__746 dL_law__747 dL_law__752 (by decide) (by omega) (by omega) (j_widen (by omega) (by omega) (kk _ (I'.okD _)))
theorem lc_9 {Ω : mO} {Z : mZ} {n i : Int} {D : mD} {c0 k0 : Nat} (hi : 0 ≤ i ∧ i + 6 ≤ oPn Ω ∧ oPn Ω ≤ 3072) (I : INV n D) (hn : 0 ≤ n ∧ n ≤ 90000) (hc : c0 + 2 ≤ 601024) (hk : k0 + 12 ≤ 7293034) (kk : ∀ F, INV (n + 1) F → JL Ω Z 2818 (LSm i) [] F (c0 + 2) (k0 + 12)) : JL Ω Z 755 (LSm i) [] D c0 k0 := by
  obtain ⟨r, E, v, F, h1, h2, A, I'⟩ := Ans.step I (q_row I.1 sxR sxR bz01)
  refine j_aload_n (pc' := 756) dL_law__755 rfl rfl ?_
  refine j_arg (pc' := 762) (j := 1) dL_law__756 dL_law__757 dL_law__759 dL_law__760 dL_law__761 rfl rfl rfl hi (by decide) ?_
  refine j_arg (pc' := 768) (j := 2) dL_law__762 dL_law__763 dL_law__765 dL_law__766 dL_law__767 rfl rfl rfl hi (by decide) ?_
  refine j_arg (pc' := 774) (j := 3) dL_law__768 dL_law__769 dL_law__771 dL_law__772 dL_law__773 rfl rfl rfl hi (by decide) ?_
  refine j_flag (pc' := 782) dL_law__774 dL_law__777 dL_law__778 dL_law__781 rfl sxR ?_
  refine j_aload_n (pc' := 783) dL_law__782 rfl rfl ?_
  refine j_callSX (pc' := 786) (as := [mR 0, mI (sx Ω (i + 1)), mI (sx Ω (i + 2)), mI (bz (sx Ω (i + 3))), mR 148]) (rest := []) (d' := 99) (c' := 2) (k' := 12) (cl_row h1 A) cx_L_168 dL_law__783 rfl (by decide) rfl rfl rfl rfl (by omega) (by omega) ?_
  refine j_istore (pc' := 788) (ls' := [some (mR 2000000), some (mR 0), some (mR 133), some (mR 148), some (mI i), some (mI (F 133 0)), none]) dL_law__786 rfl (by decide) rfl ?_
  refine j_aload_n (pc' := 789) dL_law__788 rfl rfl ?_
  refine j_arg (pc' := 795) (j := 1) dL_law__789 dL_law__790 dL_law__792 dL_law__793 dL_law__794 rfl rfl rfl hi (by decide) ?_
  refine j_arg (pc' := 801) (j := 2) dL_law__795 dL_law__796 dL_law__798 dL_law__799 dL_law__800 rfl rfl rfl hi (by decide) ?_
  refine j_arg (pc' := 807) (j := 3) dL_law__801 dL_law__802 dL_law__804 dL_law__805 dL_law__806 rfl rfl rfl hi (by decide) ?_
  refine j_flag (pc' := 815) dL_law__807 dL_law__810 dL_law__811 dL_law__814 rfl sxR ?_
  have h3 : F_X12_row (sx Ω (i + 1)) (sx Ω (i + 2)) (bz (sx Ω (i + 3))) (oD E (wg E r)) = some (v, oD F (wg E r)) := by rw [fr_F_X12_row, h2]; rfl
  refine k_cV (pc' := 818) (d' := 99) [mI (sx Ω (i + 1)), mI (sx Ω (i + 2)), mI (bz (sx Ω (i + 3)))] [] (c_X12_row (d := 99) (by decide) h3) cw_L_170 kc_11 w_1862 w_1863 dL_law__815 rfl (by decide) rfl rfl (by decide) sk_133 rfl rfl (by omega) (by omega) ?_
  exact lb_tail (pc := 818) A (by decide) wg_g dL_law__818 dL_law__820 dL_law__821 dL_law__824 dL_law__826 dL_law__831 dL_law__833 dL_law__836 dL_law__837 dL_law__838 dL_law__839 dL_law__841 dL_law__842 dL_law__843 dL_law__848 (by decide) (by omega) (by omega) (j_widen (by omega) (by omega) (kk _ (I'.okD _)))
theorem lc_10 {Ω : mO} {Z : mZ} {n i : Int} {D : mD} {c0 k0 : Nat} (hi : 0 ≤ i ∧ i + 6 ≤ oPn Ω ∧ oPn Ω ≤ 3072) (I : INV n D) (hn : 0 ≤ n ∧ n ≤ 90000) (hc : c0 + 2 ≤ 601024) (hk : k0 + 12 ≤ 7293034) (kk : ∀ F, INV (n + 1) F → JL Ω Z 2818 (LSm i) [] F (c0 + 2) (k0 + 12)) : JL Ω Z 851 (LSm i) [] D c0 k0 := by
  obtain ⟨r, E, v, F, h1, h2, A, I'⟩ := Ans.step I (q_fades I.1 sxR sxR)
  refine j_aload_n (pc' := 852) dL_law__851 rfl rfl ?_
  refine j_arg (pc' := 858) (j := 1) dL_law__852 dL_law__853 dL_law__855 dL_law__856 dL_law__857 rfl rfl rfl hi (by decide) ?_
  refine j_arg (pc' := 864) (j := 2) dL_law__858 dL_law__859 dL_law__861 dL_law__862 dL_law__863 rfl rfl rfl hi (by decide) ?_
  refine j_aload_n (pc' := 865) dL_law__864 rfl rfl ?_
  refine j_callSX (pc' := 868) (as := [mR 0, mI (sx Ω (i + 1)), mI (sx Ω (i + 2)), mR 148]) (rest := []) (d' := 99) (c' := 2) (k' := 12) (cl_fades h1 A) cx_L_171 dL_law__865 rfl (by decide) rfl rfl rfl rfl (by omega) (by omega) ?_
  refine j_istore (pc' := 870) (ls' := [some (mR 2000000), some (mR 0), some (mR 133), some (mR 148), some (mI i), some (mI (F 133 0)), none]) dL_law__868 rfl (by decide) rfl ?_
  refine j_aload_n (pc' := 871) dL_law__870 rfl rfl ?_
  refine j_arg (pc' := 877) (j := 1) dL_law__871 dL_law__872 dL_law__874 dL_law__875 dL_law__876 rfl rfl rfl hi (by decide) ?_
  refine j_arg (pc' := 883) (j := 2) dL_law__877 dL_law__878 dL_law__880 dL_law__881 dL_law__882 rfl rfl rfl hi (by decide) ?_
  have h3 : F_X12_fades (sx Ω (i + 1)) (sx Ω (i + 2)) (oD E (wg E r)) = some (v, oD F (wg E r)) := by rw [fr_F_X12_fades, h2]; rfl
  refine k_cV (pc' := 886) (d' := 99) [mI (sx Ω (i + 1)), mI (sx Ω (i + 2))] [] (c_X12_fades (d := 99) (by decide) h3) cw_L_173 kc_11 w_1866 w_1867 dL_law__883 rfl (by decide) rfl rfl (by decide) sk_133 rfl rfl (by omega) (by omega) ?_
  exact lb_tail (pc := 886) A (by decide) wg_g dL_law__886 dL_law__888 dL_law__889 dL_law__892 dL_law__894 dL_law__899 dL_law__901 dL_law__904 dL_law__905 dL_law__906 dL_law__907 dL_law__909 dL_law__910 dL_law__911 dL_law__916 (by decide) (by omega) (by omega) (j_widen (by omega) (by omega) (kk _ (I'.okD _)))
theorem lc_11 {Ω : mO} {Z : mZ} {n i : Int} {D : mD} {c0 k0 : Nat} (hi : 0 ≤ i ∧ i + 6 ≤ oPn Ω ∧ oPn Ω ≤ 3072) (I : INV n D) (hn : 0 ≤ n ∧ n ≤ 90000) (hc : c0 + 2 ≤ 601024) (hk : k0 + 12 ≤ 7293034) (kk : ∀ F, INV (n + 1) F → JL Ω Z 2818 (LSm i) [] F (c0 + 2) (k0 + 12)) : JL Ω Z 919 (LSm i) [] D c0 k0 := by
  obtain ⟨r, E, v, F, h1, h2, A, I'⟩ := a_shift I sxR sxR
  refine j_aload_n (pc' := 920) dL_law__919 rfl rfl ?_
  refine j_arg (pc' := 926) (j := 1) dL_law__920 dL_law__921 dL_law__923 dL_law__924 dL_law__925 rfl rfl rfl hi (by decide) ?_
  refine j_arg (pc' := 932) (j := 2) dL_law__926 dL_law__927 dL_law__929 dL_law__930 dL_law__931 rfl rfl rfl hi (by decide) ?_
  refine j_aload_n (pc' := 933) dL_law__932 rfl rfl ?_
  refine j_callSX (pc' := 936) (as := [mR 0, mI (sx Ω (i + 1)), mI (sx Ω (i + 2)), mR 148]) (rest := []) (d' := 99) (c' := 2) (k' := 12) (cl_shift h1 A) cx_L_174 dL_law__933 rfl (by decide) rfl rfl rfl rfl (by omega) (by omega) ?_
  refine j_istore (pc' := 938) (ls' := [some (mR 2000000), some (mR 0), some (mR 133), some (mR 148), some (mI i), some (mI (F 133 0)), none]) dL_law__936 rfl (by decide) rfl ?_
  refine j_aload_n (pc' := 939) dL_law__938 rfl rfl ?_
  refine j_arg (pc' := 945) (j := 1) dL_law__939 dL_law__940 dL_law__942 dL_law__943 dL_law__944 rfl rfl rfl hi (by decide) ?_
  refine j_arg (pc' := 951) (j := 2) dL_law__945 dL_law__946 dL_law__948 dL_law__949 dL_law__950 rfl rfl rfl hi (by decide) ?_
  have h3 : F_X12_shift (sx Ω (i + 1)) (sx Ω (i + 2)) (oD E (wg E r)) = some (v, oD F (wg E r)) := by rw [fr_F_X12_shift, h2]; rfl
  refine k_cV (pc' := 954) (d' := 99) [mI (sx Ω (i + 1)), mI (sx Ω (i + 2))] [] (c_X12_shift (d := 99) (by decide) h3) cw_L_176 kc_11 w_1877 w_1878 dL_law__951 rfl (by decide) rfl rfl (by decide) sk_133 rfl rfl (by omega) (by omega) ?_
  exact lb_tail (pc := 954) A (by decide) wg_g dL_law__954 dL_law__956 dL_law__957 dL_law__960 dL_law__962 dL_law__967 dL_law__969 dL_law__972 dL_law__973 dL_law__974 dL_law__975 dL_law__977 dL_law__978 dL_law__979 dL_law__984 (by decide) (by omega) (by omega) (j_widen (by omega) (by omega) (kk _ (I'.okD _)))
theorem lc_12 {Ω : mO} {Z : mZ} {n i : Int} {D : mD} {c0 k0 : Nat} (hi : 0 ≤ i ∧ i + 6 ≤ oPn Ω ∧ oPn Ω ≤ 3072) (I : INV n D) (hn : 0 ≤ n ∧ n ≤ 90000) (hc : c0 + 2 ≤ 601024) (hk : k0 + 12 ≤ 7293034) (kk : ∀ F, INV (n + 1) F → JL Ω Z 2818 (LSm i) [] F (c0 + 2) (k0 + 12)) : JL Ω Z 987 (LSm i) [] D c0 k0 := by
  obtain ⟨r, E, v, F, h1, h2, A, I'⟩ := a_squeezed I sxR sxR
  refine j_aload_n (pc' := 988) dL_law__987 rfl rfl ?_
  refine j_arg (pc' := 994) (j := 1) dL_law__988 dL_law__989 dL_law__991 dL_law__992 dL_law__993 rfl rfl rfl hi (by decide) ?_
  refine j_arg (pc' := 1000) (j := 2) dL_law__994 dL_law__995 dL_law__997 dL_law__998 dL_law__999 rfl rfl rfl hi (by decide) ?_
  refine j_aload_n (pc' := 1001) dL_law__1000 rfl rfl ?_
  refine j_callSX (pc' := 1004) (as := [mR 0, mI (sx Ω (i + 1)), mI (sx Ω (i + 2)), mR 148]) (rest := []) (d' := 99) (c' := 2) (k' := 12) (cl_squeezed h1 A) cx_L_177 dL_law__1001 rfl (by decide) rfl rfl rfl rfl (by omega) (by omega) ?_
  refine j_istore (pc' := 1006) (ls' := [some (mR 2000000), some (mR 0), some (mR 133), some (mR 148), some (mI i), some (mI (F 133 0)), none]) dL_law__1004 rfl (by decide) rfl ?_
  refine j_aload_n (pc' := 1007) dL_law__1006 rfl rfl ?_
  refine j_arg (pc' := 1013) (j := 1) dL_law__1007 dL_law__1008 dL_law__1010 dL_law__1011 dL_law__1012 rfl rfl rfl hi (by decide) ?_
  refine j_arg (pc' := 1019) (j := 2) dL_law__1013 dL_law__1014 dL_law__1016 dL_law__1017 dL_law__1018 rfl rfl rfl hi (by decide) ?_
  have h3 : F_X12_squeezed (sx Ω (i + 1)) (sx Ω (i + 2)) (oD E (wg E r)) = some (v, oD F (wg E r)) := by rw [fr_F_X12_squeezed, h2]; rfl
  refine k_cV (pc' := 1022) (d' := 99) [mI (sx Ω (i + 1)), mI (sx Ω (i + 2))] [] (c_X12_squeezed (d := 99) (by decide) h3) cw_L_179 kc_11 w_1885 w_1886 dL_law__1019 rfl (by decide) rfl rfl (by decide) sk_133 rfl rfl (by omega) (by omega) ?_
  exact lb_tail (pc := 1022) A (by decide) wg_g dL_law__1022 dL_law__1024 dL_law__1025 dL_law__1028 dL_law__1030 dL_law__1035 dL_law__1037 dL_law__1040 dL_law__1041 dL_law__1042 dL_law__1043 dL_law__1045 dL_law__1046 dL_law__1047 dL_law__1052 (by decide) (by omega) (by omega) (j_widen (by omega) (by omega) (kk _ (I'.okD _)))
theorem lc_13 {Ω : mO} {Z : mZ} {n i : Int} {D : mD} {c0 k0 : Nat} (hi : 0 ≤ i ∧ i + 6 ≤ oPn Ω ∧ oPn Ω ≤ 3072) (I : INV n D) (hn : 0 ≤ n ∧ n ≤ 90000) (hc : c0 + 2 ≤ 601024) (hk : k0 + 12 ≤ 7293034) (kk : ∀ F, INV (n + 1) F → JL Ω Z 2818 (LSm i) [] F (c0 + 2) (k0 + 12)) : JL Ω Z 1055 (LSm i) [] D c0 k0 := by
  obtain ⟨r, E, v, F, h1, h2, A, I'⟩ := a_shadow I sxR
  refine j_aload_n (pc' := 1056) dL_law__1055 rfl rfl ?_
  refine j_arg (pc' := 1062) (j := 1) dL_law__1056 dL_law__1057 dL_law__1059 dL_law__1060 dL_law__1061 rfl rfl rfl hi (by decide) ?_
  refine j_aload_n (pc' := 1063) dL_law__1062 rfl rfl ?_
  refine j_callSX (pc' := 1066) (as := [mR 0, mI (sx Ω (i + 1)), mR 148]) (rest := []) (d' := 99) (c' := 1) (k' := 6) (cl_shadow h1 A) cx_L_180 dL_law__1063 rfl (by decide) rfl rfl rfl rfl (by omega) (by omega) ?_
  refine j_istore (pc' := 1068) (ls' := [some (mR 2000000), some (mR 0), some (mR 133), some (mR 148), some (mI i), some (mI (F 133 0)), none]) dL_law__1066 rfl (by decide) rfl ?_
  refine j_aload_n (pc' := 1069) dL_law__1068 rfl rfl ?_
  refine j_arg (pc' := 1075) (j := 1) dL_law__1069 dL_law__1070 dL_law__1072 dL_law__1073 dL_law__1074 rfl rfl rfl hi (by decide) ?_
  have h3 : F_X12_shadow (sx Ω (i + 1)) (oD E (wg E r)) = some (v, oD F (wg E r)) := by rw [fr_F_X12_shadow, h2]; rfl
  refine k_cV (pc' := 1078) (d' := 99) [mI (sx Ω (i + 1))] [] (c_X12_shadow (d := 99) (by decide) h3) cw_L_183 kc_11 w_1889 w_1890 dL_law__1075 rfl (by decide) rfl rfl (by decide) sk_133 rfl rfl (by omega) (by omega) ?_
  exact lb_tail (pc := 1078) A (by decide) wg_g dL_law__1078 dL_law__1080 dL_law__1081 dL_law__1084 dL_law__1086 dL_law__1091 dL_law__1093 dL_law__1096 dL_law__1097 dL_law__1098 dL_law__1099 dL_law__1101 dL_law__1102 dL_law__1103 dL_law__1108 (by decide) (by omega) (by omega) (j_widen (by omega) (by omega) (kk _ (I'.okD _)))
theorem lc_14 {Ω : mO} {Z : mZ} {n i : Int} {D : mD} {c0 k0 : Nat} (hi : 0 ≤ i ∧ i + 6 ≤ oPn Ω ∧ oPn Ω ≤ 3072) (I : INV n D) (hn : 0 ≤ n ∧ n ≤ 90000) (hc : c0 + 2 ≤ 601024) (hk : k0 + 12 ≤ 7293034) (kk : ∀ F, INV (n + 1) F → JL Ω Z 2818 (LSm i) [] F (c0 + 2) (k0 + 12)) : JL Ω Z 1111 (LSm i) [] D c0 k0 := by
  obtain ⟨r, E, v, F, h1, h2, A, I'⟩ := a_lays I sxR
  refine j_aload_n (pc' := 1112) dL_law__1111 rfl rfl ?_
  refine j_arg (pc' := 1118) (j := 1) dL_law__1112 dL_law__1113 dL_law__1115 dL_law__1116 dL_law__1117 rfl rfl rfl hi (by decide) ?_
  refine j_aload_n (pc' := 1119) dL_law__1118 rfl rfl ?_
  refine j_callSX (pc' := 1122) (as := [mR 0, mI (sx Ω (i + 1)), mR 148]) (rest := []) (d' := 99) (c' := 2) (k' := 12) (cl_lays h1 A) cx_L_184 dL_law__1119 rfl (by decide) rfl rfl rfl rfl (by omega) (by omega) ?_
  refine j_istore (pc' := 1124) (ls' := [some (mR 2000000), some (mR 0), some (mR 133), some (mR 148), some (mI i), some (mI (F 133 0)), none]) dL_law__1122 rfl (by decide) rfl ?_
  refine j_aload_n (pc' := 1125) dL_law__1124 rfl rfl ?_
  refine j_arg (pc' := 1131) (j := 1) dL_law__1125 dL_law__1126 dL_law__1128 dL_law__1129 dL_law__1130 rfl rfl rfl hi (by decide) ?_
  have h3 : F_X12_lays (sx Ω (i + 1)) (oD E (wg E r)) = some (v, oD F (wg E r)) := by rw [fr_F_X12_lays, h2]; rfl
  refine k_cV (pc' := 1134) (d' := 99) [mI (sx Ω (i + 1))] [] (c_X12_lays (d := 99) (by decide) h3) cw_L_186 kc_11 w_1893 w_1894 dL_law__1131 rfl (by decide) rfl rfl (by decide) sk_133 rfl rfl (by omega) (by omega) ?_
  exact lb_tail (pc := 1134) A (by decide) wg_g dL_law__1134 dL_law__1136 dL_law__1137 dL_law__1140 dL_law__1142 dL_law__1147 dL_law__1149 dL_law__1152 dL_law__1153 dL_law__1154 dL_law__1155 dL_law__1157 dL_law__1158 dL_law__1159 dL_law__1164 (by decide) (by omega) (by omega) (j_widen (by omega) (by omega) (kk _ (I'.okD _)))
theorem lc_15 {Ω : mO} {Z : mZ} {n i : Int} {D : mD} {c0 k0 : Nat} (hi : 0 ≤ i ∧ i + 6 ≤ oPn Ω ∧ oPn Ω ≤ 3072) (I : INV n D) (hn : 0 ≤ n ∧ n ≤ 90000) (hc : c0 + 2 ≤ 601024) (hk : k0 + 12 ≤ 7293034) (kk : ∀ F, INV (n + 1) F → JL Ω Z 2818 (LSm i) [] F (c0 + 2) (k0 + 12)) : JL Ω Z 1167 (LSm i) [] D c0 k0 := by
  obtain ⟨r, E, v, F, h1, h2, A, I'⟩ := a_paint I (by omega) sxR
  refine j_aload_n (pc' := 1168) dL_law__1167 rfl rfl ?_
  refine j_arg (pc' := 1174) (j := 1) dL_law__1168 dL_law__1169 dL_law__1171 dL_law__1172 dL_law__1173 rfl rfl rfl hi (by decide) ?_
  refine j_aload_n (pc' := 1175) dL_law__1174 rfl rfl ?_
  refine j_callSX (pc' := 1178) (as := [mR 0, mI (sx Ω (i + 1)), mR 148]) (rest := []) (d' := 99) (c' := 1) (k' := 6) (cl_paint h1 A) cx_L_187 dL_law__1175 rfl (by decide) rfl rfl rfl rfl (by omega) (by omega) ?_
  refine j_istore (pc' := 1180) (ls' := [some (mR 2000000), some (mR 0), some (mR 133), some (mR 148), some (mI i), some (mI (F 133 0)), none]) dL_law__1178 rfl (by decide) rfl ?_
  refine j_aload_n (pc' := 1181) dL_law__1180 rfl rfl ?_
  refine j_arg (pc' := 1187) (j := 1) dL_law__1181 dL_law__1182 dL_law__1184 dL_law__1185 dL_law__1186 rfl rfl rfl hi (by decide) ?_
  have h3 : F_X12_paint (sx Ω (i + 1)) (oD E (wg E r)) = some (v, oD F (wg E r)) := by rw [fr_F_X12_paint, h2]; rfl
  refine k_cV (pc' := 1190) (d' := 99) [mI (sx Ω (i + 1))] [] (c_X12_paint (d := 99) (by decide) h3) cw_L_189 kc_11 w_1944 w_1945 dL_law__1187 rfl (by decide) rfl rfl (by decide) sk_133 rfl rfl (by omega) (by omega) ?_
  exact lb_tail (pc := 1190) A (by decide) wg_g dL_law__1190 dL_law__1192 dL_law__1193 dL_law__1196 dL_law__1198 dL_law__1203 dL_law__1205 dL_law__1208 dL_law__1209 dL_law__1210 dL_law__1211 dL_law__1213 dL_law__1214 dL_law__1215 dL_law__1220 (by decide) (by omega) (by omega) (j_widen (by omega) (by omega) (kk _ (I'.okD _)))
theorem lc_16 {Ω : mO} {Z : mZ} {n i : Int} {D : mD} {c0 k0 : Nat} (hi : 0 ≤ i ∧ i + 6 ≤ oPn Ω ∧ oPn Ω ≤ 3072) (I : INV n D) (hn : 0 ≤ n ∧ n ≤ 90000) (hc : c0 + 2 ≤ 601024) (hk : k0 + 12 ≤ 7293034) (kk : ∀ F, INV (n + 1) F → JL Ω Z 2818 (LSm i) [] F (c0 + 2) (k0 + 12)) : JL Ω Z 1223 (LSm i) [] D c0 k0 := by
  obtain ⟨E, v, F, h1, h2, I'⟩ := AnsI.step I (q_uneven I.1)
  refine j_aload_n (pc' := 1224) dL_law__1223 rfl rfl ?_
  refine k_cV (pc' := 1227) (d' := 99) [] [] (c_X11_uneven (d := 99) (by decide) h1) cw_L_190 kc_10 w_529 w_530 dL_law__1224 rfl (by decide) rfl rfl (by decide) sk_0 rfl rfl (by omega) (by omega) ?_
  refine j_aload_n (pc' := 1228) dL_law__1227 rfl rfl ?_
  refine k_cV (pc' := 1231) (d' := 99) [] [mI v] (c_X12_uneven (d := 99) (by decide) h2) cw_L_193 kc_11 w_2016 w_2017 dL_law__1228 rfl (by decide) rfl rfl (by decide) sk_133 rfl rfl (by omega) (by omega) ?_
  refine j_icmp_same (tgt := 2818) dL_law__1231 rfl ?_
  exact j_widen (by omega) (by omega) (kk F I')
theorem lc_17 {Ω : mO} {Z : mZ} {n i : Int} {D : mD} {c0 k0 : Nat} (hi : 0 ≤ i ∧ i + 6 ≤ oPn Ω ∧ oPn Ω ≤ 3072) (I : INV n D) (hn : 0 ≤ n ∧ n ≤ 90000) (hc : c0 + 2 ≤ 601024) (hk : k0 + 12 ≤ 7293034) (kk : ∀ F, INV (n + 1) F → JL Ω Z 2818 (LSm i) [] F (c0 + 2) (k0 + 12)) : JL Ω Z 1236 (LSm i) [] D c0 k0 := by
  obtain ⟨r, E, v, F, h1, h2, A, I'⟩ := Ans.step I (q_off I.1 sxR)
  refine j_aload_n (pc' := 1237) dL_law__1236 rfl rfl ?_
  refine j_arg (pc' := 1243) (j := 1) dL_law__1237 dL_law__1238 dL_law__1240 dL_law__1241 dL_law__1242 rfl rfl rfl hi (by decide) ?_
  refine j_aload_n (pc' := 1244) dL_law__1243 rfl rfl ?_
  refine j_callSX (pc' := 1247) (as := [mR 0, mI (sx Ω (i + 1)), mR 148]) (rest := []) (d' := 99) (c' := 1) (k' := 6) (cl_off h1 A) cx_L_194 dL_law__1244 rfl (by decide) rfl rfl rfl rfl (by omega) (by omega) ?_
  refine j_istore (pc' := 1249) (ls' := [some (mR 2000000), some (mR 0), some (mR 133), some (mR 148), some (mI i), some (mI (F 133 0)), none]) dL_law__1247 rfl (by decide) rfl ?_
  refine j_aload_n (pc' := 1250) dL_law__1249 rfl rfl ?_
  refine j_arg (pc' := 1256) (j := 1) dL_law__1250 dL_law__1251 dL_law__1253 dL_law__1254 dL_law__1255 rfl rfl rfl hi (by decide) ?_
  have h3 : F_X12_off (sx Ω (i + 1)) (oD E (wg E r)) = some (v, oD F (wg E r)) := by rw [fr_F_X12_off, h2]; rfl
  refine k_cV (pc' := 1259) (d' := 99) [mI (sx Ω (i + 1))] [] (c_X12_off (d := 99) (by decide) h3) cw_L_196 kc_11 w_2024 w_2025 dL_law__1256 rfl (by decide) rfl rfl (by decide) sk_133 rfl rfl (by omega) (by omega) ?_
  exact lb_tail (pc := 1259) A (by decide) wg_g dL_law__1259 dL_law__1261 dL_law__1262 dL_law__1265 dL_law__1267 dL_law__1272 dL_law__1274 dL_law__1277 dL_law__1278 dL_law__1279 dL_law__1280 dL_law__1282 dL_law__1283 dL_law__1284 dL_law__1289 (by decide) (by omega) (by omega) (j_widen (by omega) (by omega) (kk _ (I'.okD _)))
theorem lc_18 {Ω : mO} {Z : mZ} {n i : Int} {D : mD} {c0 k0 : Nat} (hi : 0 ≤ i ∧ i + 6 ≤ oPn Ω ∧ oPn Ω ≤ 3072) (I : INV n D) (hn : 0 ≤ n ∧ n ≤ 90000) (hc : c0 + 2 ≤ 601024) (hk : k0 + 12 ≤ 7293034) (kk : ∀ F, INV (n + 1) F → JL Ω Z 2818 (LSm i) [] F (c0 + 2) (k0 + 12)) : JL Ω Z 1292 (LSm i) [] D c0 k0 := by
  obtain ⟨E, v, F, h1, h2, I'⟩ := AnsI.step I (q_fits I.1)
  refine j_aload_n (pc' := 1293) dL_law__1292 rfl rfl ?_
  refine k_cV (pc' := 1296) (d' := 99) [] [] (c_X11_fits (d := 99) (by decide) h1) cw_L_197 kc_10 w_587 w_588 dL_law__1293 rfl (by decide) rfl rfl (by decide) sk_0 rfl rfl (by omega) (by omega) ?_
  refine j_aload_n (pc' := 1297) dL_law__1296 rfl rfl ?_
  refine k_cV (pc' := 1300) (d' := 99) [] [mI v] (c_X12_fits (d := 99) (by decide) h2) cw_L_201 kc_11 w_2028 w_2029 dL_law__1297 rfl (by decide) rfl rfl (by decide) sk_133 rfl rfl (by omega) (by omega) ?_
  refine j_icmp_same (tgt := 2818) dL_law__1300 rfl ?_
  exact j_widen (by omega) (by omega) (kk F I')
theorem lc_19 {Ω : mO} {Z : mZ} {n i : Int} {D : mD} {c0 k0 : Nat} (hi : 0 ≤ i ∧ i + 6 ≤ oPn Ω ∧ oPn Ω ≤ 3072) (I : INV n D) (hn : 0 ≤ n ∧ n ≤ 90000) (hc : c0 + 2 ≤ 601024) (hk : k0 + 12 ≤ 7293034) (kk : ∀ F, INV (n + 1) F → JL Ω Z 2818 (LSm i) [] F (c0 + 2) (k0 + 12)) : JL Ω Z 1305 (LSm i) [] D c0 k0 := by
  obtain ⟨r, E, v, F, h1, h2, A, I'⟩ := Ans.step I (q_laid I.1 sxR sxR)
  refine j_aload_n (pc' := 1306) dL_law__1305 rfl rfl ?_
  refine j_arg (pc' := 1312) (j := 1) dL_law__1306 dL_law__1307 dL_law__1309 dL_law__1310 dL_law__1311 rfl rfl rfl hi (by decide) ?_
  refine j_arg (pc' := 1318) (j := 2) dL_law__1312 dL_law__1313 dL_law__1315 dL_law__1316 dL_law__1317 rfl rfl rfl hi (by decide) ?_
  refine j_aload_n (pc' := 1319) dL_law__1318 rfl rfl ?_
  refine j_callSX (pc' := 1322) (as := [mR 0, mI (sx Ω (i + 1)), mI (sx Ω (i + 2)), mR 148]) (rest := []) (d' := 99) (c' := 1) (k' := 6) (cl_laid h1 A) cx_L_202 dL_law__1319 rfl (by decide) rfl rfl rfl rfl (by omega) (by omega) ?_
  refine j_istore (pc' := 1324) (ls' := [some (mR 2000000), some (mR 0), some (mR 133), some (mR 148), some (mI i), some (mI (F 133 0)), none]) dL_law__1322 rfl (by decide) rfl ?_
  refine j_aload_n (pc' := 1325) dL_law__1324 rfl rfl ?_
  refine j_arg (pc' := 1331) (j := 1) dL_law__1325 dL_law__1326 dL_law__1328 dL_law__1329 dL_law__1330 rfl rfl rfl hi (by decide) ?_
  refine j_arg (pc' := 1337) (j := 2) dL_law__1331 dL_law__1332 dL_law__1334 dL_law__1335 dL_law__1336 rfl rfl rfl hi (by decide) ?_
  have h3 : F_X12_laid (sx Ω (i + 1)) (sx Ω (i + 2)) (oD E (wg E r)) = some (v, oD F (wg E r)) := by rw [fr_F_X12_laid, h2]; rfl
  refine k_cV (pc' := 1340) (d' := 99) [mI (sx Ω (i + 1)), mI (sx Ω (i + 2))] [] (c_X12_laid (d := 99) (by decide) h3) cw_L_204 kc_11 w_1932 w_1933 dL_law__1337 rfl (by decide) rfl rfl (by decide) sk_133 rfl rfl (by omega) (by omega) ?_
  exact lb_tail (pc := 1340) A (by decide) wg_g dL_law__1340 dL_law__1342 dL_law__1343 dL_law__1346 dL_law__1348 dL_law__1353 dL_law__1355 dL_law__1358 dL_law__1359 dL_law__1360 dL_law__1361 dL_law__1363 dL_law__1364 dL_law__1365 dL_law__1370 (by decide) (by omega) (by omega) (j_widen (by omega) (by omega) (kk _ (I'.okD _)))
theorem lc_20 {Ω : mO} {Z : mZ} {n i : Int} {D : mD} {c0 k0 : Nat} (hi : 0 ≤ i ∧ i + 6 ≤ oPn Ω ∧ oPn Ω ≤ 3072) (I : INV n D) (hn : 0 ≤ n ∧ n ≤ 90000) (hc : c0 + 2 ≤ 601024) (hk : k0 + 12 ≤ 7293034) (kk : ∀ F, INV (n + 1) F → JL Ω Z 2818 (LSm i) [] F (c0 + 2) (k0 + 12)) : JL Ω Z 1373 (LSm i) [] D c0 k0 := by
  obtain ⟨E, v, F, h1, h2, I'⟩ := AnsI.step I (q_best I.1 bzR)
  refine j_aload_n (pc' := 1374) dL_law__1373 rfl rfl ?_
  refine j_arg (pc' := 1380) (j := 1) dL_law__1374 dL_law__1375 dL_law__1377 dL_law__1378 dL_law__1379 rfl rfl rfl hi (by decide) ?_
  refine j_flag (pc' := 1388) dL_law__1380 dL_law__1383 dL_law__1384 dL_law__1387 rfl sxR ?_
  refine k_cV (pc' := 1391) (d' := 99) [mI (bz (sx Ω (i + 1)))] [] (c_X11_best (d := 99) (by decide) h1) cw_L_205 kc_10 w_596 w_597 dL_law__1388 rfl (by decide) rfl rfl (by decide) sk_0 rfl rfl (by omega) (by omega) ?_
  refine j_aload_n (pc' := 1392) dL_law__1391 rfl rfl ?_
  refine j_arg (pc' := 1398) (j := 1) dL_law__1392 dL_law__1393 dL_law__1395 dL_law__1396 dL_law__1397 rfl rfl rfl hi (by decide) ?_
  refine j_flag (pc' := 1406) dL_law__1398 dL_law__1401 dL_law__1402 dL_law__1405 rfl sxR ?_
  refine k_cV (pc' := 1409) (d' := 99) [mI (bz (sx Ω (i + 1)))] [mI v] (c_X12_best (d := 99) (by decide) h2) cw_L_209 kc_11 w_1936 w_1937 dL_law__1406 rfl (by decide) rfl rfl (by decide) sk_133 rfl rfl (by omega) (by omega) ?_
  refine j_icmp_same (tgt := 2818) dL_law__1409 rfl ?_
  exact j_widen (by omega) (by omega) (kk F I')
theorem lc_21 {Ω : mO} {Z : mZ} {n i : Int} {D : mD} {c0 k0 : Nat} (hi : 0 ≤ i ∧ i + 6 ≤ oPn Ω ∧ oPn Ω ≤ 3072) (I : INV n D) (hn : 0 ≤ n ∧ n ≤ 90000) (hc : c0 + 2 ≤ 601024) (hk : k0 + 12 ≤ 7293034) (kk : ∀ F, INV (n + 1) F → JL Ω Z 2818 (LSm i) [] F (c0 + 2) (k0 + 12)) : JL Ω Z 1414 (LSm i) [] D c0 k0 := by
  obtain ⟨r, E, v, F, h1, h2, A, I'⟩ := Ans.step I (q_nearest I.1 sxR sxR)
  refine j_aload_n (pc' := 1415) dL_law__1414 rfl rfl ?_
  refine j_arg (pc' := 1421) (j := 1) dL_law__1415 dL_law__1416 dL_law__1418 dL_law__1419 dL_law__1420 rfl rfl rfl hi (by decide) ?_
  refine j_arg (pc' := 1427) (j := 2) dL_law__1421 dL_law__1422 dL_law__1424 dL_law__1425 dL_law__1426 rfl rfl rfl hi (by decide) ?_
  refine j_aload_n (pc' := 1428) dL_law__1427 rfl rfl ?_
  refine j_callSX (pc' := 1431) (as := [mR 0, mI (sx Ω (i + 1)), mI (sx Ω (i + 2)), mR 148]) (rest := []) (d' := 99) (c' := 2) (k' := 12) (cl_nearest h1 A) cx_L_210 dL_law__1428 rfl (by decide) rfl rfl rfl rfl (by omega) (by omega) ?_
  refine j_istore (pc' := 1433) (ls' := [some (mR 2000000), some (mR 0), some (mR 133), some (mR 148), some (mI i), some (mI (F 133 0)), none]) dL_law__1431 rfl (by decide) rfl ?_
  refine j_aload_n (pc' := 1434) dL_law__1433 rfl rfl ?_
  refine j_arg (pc' := 1440) (j := 1) dL_law__1434 dL_law__1435 dL_law__1437 dL_law__1438 dL_law__1439 rfl rfl rfl hi (by decide) ?_
  refine j_arg (pc' := 1446) (j := 2) dL_law__1440 dL_law__1441 dL_law__1443 dL_law__1444 dL_law__1445 rfl rfl rfl hi (by decide) ?_
  have h3 : F_X12_nearest (sx Ω (i + 1)) (sx Ω (i + 2)) (oD E (wg E r)) = some (v, oD F (wg E r)) := by rw [fr_F_X12_nearest, h2]; rfl
  refine k_cV (pc' := 1449) (d' := 99) [mI (sx Ω (i + 1)), mI (sx Ω (i + 2))] [] (c_X12_nearest (d := 99) (by decide) h3) cw_L_212 kc_11 w_2040 w_2041 dL_law__1446 rfl (by decide) rfl rfl (by decide) sk_133 rfl rfl (by omega) (by omega) ?_
  exact lb_tail (pc := 1449) A (by decide) wg_g dL_law__1449 dL_law__1451 dL_law__1452 dL_law__1455 dL_law__1457 dL_law__1462 dL_law__1464 dL_law__1467 dL_law__1468 dL_law__1469 dL_law__1470 dL_law__1472 dL_law__1473 dL_law__1474 dL_law__1479 (by decide) (by omega) (by omega) (j_widen (by omega) (by omega) (kk _ (I'.okD _)))
theorem lc_22 {Ω : mO} {Z : mZ} {n i : Int} {D : mD} {c0 k0 : Nat} (hi : 0 ≤ i ∧ i + 6 ≤ oPn Ω ∧ oPn Ω ≤ 3072) (I : INV n D) (hn : 0 ≤ n ∧ n ≤ 90000) (hc : c0 + 2 ≤ 601024) (hk : k0 + 12 ≤ 7293034) (kk : ∀ F, INV (n + 1) F → JL Ω Z 2818 (LSm i) [] F (c0 + 2) (k0 + 12)) : JL Ω Z 1482 (LSm i) [] D c0 k0 := by
  obtain ⟨r, E, v, F, h1, h2, A, I'⟩ := Ans.step I (q_cannot I.1 sxR)
  refine j_aload_n (pc' := 1483) dL_law__1482 rfl rfl ?_
  refine j_arg (pc' := 1489) (j := 1) dL_law__1483 dL_law__1484 dL_law__1486 dL_law__1487 dL_law__1488 rfl rfl rfl hi (by decide) ?_
  refine j_aload_n (pc' := 1490) dL_law__1489 rfl rfl ?_
  refine j_callSX (pc' := 1493) (as := [mR 0, mI (sx Ω (i + 1)), mR 148]) (rest := []) (d' := 99) (c' := 1) (k' := 6) (cl_cannot h1 A) cx_L_213 dL_law__1490 rfl (by decide) rfl rfl rfl rfl (by omega) (by omega) ?_
  refine j_istore (pc' := 1495) (ls' := [some (mR 2000000), some (mR 0), some (mR 133), some (mR 148), some (mI i), some (mI (F 133 0)), none]) dL_law__1493 rfl (by decide) rfl ?_
  refine j_aload_n (pc' := 1496) dL_law__1495 rfl rfl ?_
  refine j_arg (pc' := 1502) (j := 1) dL_law__1496 dL_law__1497 dL_law__1499 dL_law__1500 dL_law__1501 rfl rfl rfl hi (by decide) ?_
  have h3 : F_X12_cannot (sx Ω (i + 1)) (oD E (wg E r)) = some (v, oD F (wg E r)) := by rw [fr_F_X12_cannot, h2]; rfl
  refine k_cV (pc' := 1505) (d' := 99) [mI (sx Ω (i + 1))] [] (c_X12_cannot (d := 99) (by decide) h3) cw_L_215 kc_11 w_2044 w_2045 dL_law__1502 rfl (by decide) rfl rfl (by decide) sk_133 rfl rfl (by omega) (by omega) ?_
  exact lb_tail (pc := 1505) A (by decide) wg_g dL_law__1505 dL_law__1507 dL_law__1508 dL_law__1511 dL_law__1513 dL_law__1518 dL_law__1520 dL_law__1523 dL_law__1524 dL_law__1525 dL_law__1526 dL_law__1528 dL_law__1529 dL_law__1530 dL_law__1535 (by decide) (by omega) (by omega) (j_widen (by omega) (by omega) (kk _ (I'.okD _)))
theorem lc_23 {Ω : mO} {Z : mZ} {n i : Int} {D : mD} {c0 k0 : Nat} (hi : 0 ≤ i ∧ i + 6 ≤ oPn Ω ∧ oPn Ω ≤ 3072) (I : INV n D) (hn : 0 ≤ n ∧ n ≤ 90000) (hc : c0 + 2 ≤ 601024) (hk : k0 + 12 ≤ 7293034) (kk : ∀ F, INV (n + 1) F → JL Ω Z 2818 (LSm i) [] F (c0 + 2) (k0 + 12)) : JL Ω Z 1538 (LSm i) [] D c0 k0 := by
  obtain ⟨r, E, v, F, h1, h2, A, I'⟩ := Ans.step I (q_lacks I.1 sxR)
  refine j_aload_n (pc' := 1539) dL_law__1538 rfl rfl ?_
  refine j_arg (pc' := 1545) (j := 1) dL_law__1539 dL_law__1540 dL_law__1542 dL_law__1543 dL_law__1544 rfl rfl rfl hi (by decide) ?_
  refine j_aload_n (pc' := 1546) dL_law__1545 rfl rfl ?_
  refine j_callSX (pc' := 1549) (as := [mR 0, mI (sx Ω (i + 1)), mR 148]) (rest := []) (d' := 99) (c' := 1) (k' := 6) (cl_lacks h1 A) cx_L_216 dL_law__1546 rfl (by decide) rfl rfl rfl rfl (by omega) (by omega) ?_
  refine j_istore (pc' := 1551) (ls' := [some (mR 2000000), some (mR 0), some (mR 133), some (mR 148), some (mI i), some (mI (F 133 0)), none]) dL_law__1549 rfl (by decide) rfl ?_
  refine j_aload_n (pc' := 1552) dL_law__1551 rfl rfl ?_
  refine j_arg (pc' := 1558) (j := 1) dL_law__1552 dL_law__1553 dL_law__1555 dL_law__1556 dL_law__1557 rfl rfl rfl hi (by decide) ?_
  have h3 : F_X12_lacks (sx Ω (i + 1)) (oD E (wg E r)) = some (v, oD F (wg E r)) := by rw [fr_F_X12_lacks, h2]; rfl
  refine k_cV (pc' := 1561) (d' := 99) [mI (sx Ω (i + 1))] [] (c_X12_lacks (d := 99) (by decide) h3) cw_L_218 kc_11 w_2048 w_2049 dL_law__1558 rfl (by decide) rfl rfl (by decide) sk_133 rfl rfl (by omega) (by omega) ?_
  exact lb_tail (pc := 1561) A (by decide) wg_g dL_law__1561 dL_law__1563 dL_law__1564 dL_law__1567 dL_law__1569 dL_law__1574 dL_law__1576 dL_law__1579 dL_law__1580 dL_law__1581 dL_law__1582 dL_law__1584 dL_law__1585 dL_law__1586 dL_law__1591 (by decide) (by omega) (by omega) (j_widen (by omega) (by omega) (kk _ (I'.okD _)))
theorem lc_24 {Ω : mO} {Z : mZ} {n i : Int} {D : mD} {c0 k0 : Nat} (hi : 0 ≤ i ∧ i + 6 ≤ oPn Ω ∧ oPn Ω ≤ 3072) (I : INV n D) (hn : 0 ≤ n ∧ n ≤ 90000) (hc : c0 + 2 ≤ 601024) (hk : k0 + 12 ≤ 7293034) (kk : ∀ F, INV (n + 1) F → JL Ω Z 2818 (LSm i) [] F (c0 + 2) (k0 + 12)) : JL Ω Z 1594 (LSm i) [] D c0 k0 := by
  obtain ⟨r, E, v, F, h1, h2, A, I'⟩ := Ans.step I (q_squeeze I.1 sxR bzR)
  refine j_aload_n (pc' := 1595) dL_law__1594 rfl rfl ?_
  refine j_arg (pc' := 1601) (j := 1) dL_law__1595 dL_law__1596 dL_law__1598 dL_law__1599 dL_law__1600 rfl rfl rfl hi (by decide) ?_
  refine j_arg (pc' := 1607) (j := 2) dL_law__1601 dL_law__1602 dL_law__1604 dL_law__1605 dL_law__1606 rfl rfl rfl hi (by decide) ?_
  refine j_flag (pc' := 1615) dL_law__1607 dL_law__1610 dL_law__1611 dL_law__1614 rfl sxR ?_
  refine j_aload_n (pc' := 1616) dL_law__1615 rfl rfl ?_
  refine j_callSX (pc' := 1619) (as := [mR 0, mI (sx Ω (i + 1)), mI (bz (sx Ω (i + 2))), mR 148]) (rest := []) (d' := 99) (c' := 1) (k' := 6) (cl_squeeze h1 A) cx_L_219 dL_law__1616 rfl (by decide) rfl rfl rfl rfl (by omega) (by omega) ?_
  refine j_istore (pc' := 1621) (ls' := [some (mR 2000000), some (mR 0), some (mR 133), some (mR 148), some (mI i), some (mI (F 133 0)), none]) dL_law__1619 rfl (by decide) rfl ?_
  refine j_aload_n (pc' := 1622) dL_law__1621 rfl rfl ?_
  refine j_arg (pc' := 1628) (j := 1) dL_law__1622 dL_law__1623 dL_law__1625 dL_law__1626 dL_law__1627 rfl rfl rfl hi (by decide) ?_
  refine j_arg (pc' := 1634) (j := 2) dL_law__1628 dL_law__1629 dL_law__1631 dL_law__1632 dL_law__1633 rfl rfl rfl hi (by decide) ?_
  refine j_flag (pc' := 1642) dL_law__1634 dL_law__1637 dL_law__1638 dL_law__1641 rfl sxR ?_
  have h3 : F_X12_squeeze (sx Ω (i + 1)) (bz (sx Ω (i + 2))) (oD E (wg E r)) = some (v, oD F (wg E r)) := by rw [fr_F_X12_squeeze, h2]; rfl
  refine k_cV (pc' := 1645) (d' := 99) [mI (sx Ω (i + 1)), mI (bz (sx Ω (i + 2)))] [] (c_X12_squeeze (d := 99) (by decide) h3) cw_L_222 kc_11 w_2060 w_2061 dL_law__1642 rfl (by decide) rfl rfl (by decide) sk_133 rfl rfl (by omega) (by omega) ?_
  exact lb_tail (pc := 1645) A (by decide) wg_g dL_law__1645 dL_law__1647 dL_law__1648 dL_law__1651 dL_law__1653 dL_law__1658 dL_law__1660 dL_law__1663 dL_law__1664 dL_law__1665 dL_law__1666 dL_law__1668 dL_law__1669 dL_law__1670 dL_law__1675 (by decide) (by omega) (by omega) (j_widen (by omega) (by omega) (kk _ (I'.okD _)))
theorem lc_25 {Ω : mO} {Z : mZ} {n i : Int} {D : mD} {c0 k0 : Nat} (hi : 0 ≤ i ∧ i + 6 ≤ oPn Ω ∧ oPn Ω ≤ 3072) (I : INV n D) (hn : 0 ≤ n ∧ n ≤ 90000) (hc : c0 + 2 ≤ 601024) (hk : k0 + 12 ≤ 7293034) (kk : ∀ F, INV (n + 1) F → JL Ω Z 2818 (LSm i) [] F (c0 + 2) (k0 + 12)) : JL Ω Z 1678 (LSm i) [] D c0 k0 := by
  obtain ⟨r, E, v, F, h1, h2, A, I'⟩ := Ans.step I (q_dropped I.1 sxR)
  refine j_aload_n (pc' := 1679) dL_law__1678 rfl rfl ?_
  refine j_arg (pc' := 1685) (j := 1) dL_law__1679 dL_law__1680 dL_law__1682 dL_law__1683 dL_law__1684 rfl rfl rfl hi (by decide) ?_
  refine j_aload_n (pc' := 1686) dL_law__1685 rfl rfl ?_
  refine j_callSX (pc' := 1689) (as := [mR 0, mI (sx Ω (i + 1)), mR 148]) (rest := []) (d' := 99) (c' := 1) (k' := 6) (cl_dropped h1 A) cx_L_223 dL_law__1686 rfl (by decide) rfl rfl rfl rfl (by omega) (by omega) ?_
  refine j_istore (pc' := 1691) (ls' := [some (mR 2000000), some (mR 0), some (mR 133), some (mR 148), some (mI i), some (mI (F 133 0)), none]) dL_law__1689 rfl (by decide) rfl ?_
  refine j_aload_n (pc' := 1692) dL_law__1691 rfl rfl ?_
  refine j_arg (pc' := 1698) (j := 1) dL_law__1692 dL_law__1693 dL_law__1695 dL_law__1696 dL_law__1697 rfl rfl rfl hi (by decide) ?_
  have h3 : F_X12_dropped (sx Ω (i + 1)) (oD E (wg E r)) = some (v, oD F (wg E r)) := by rw [fr_F_X12_dropped, h2]; rfl
  refine k_cV (pc' := 1701) (d' := 99) [mI (sx Ω (i + 1))] [] (c_X12_dropped (d := 99) (by decide) h3) cw_L_225 kc_11 w_2084 w_2085 dL_law__1698 rfl (by decide) rfl rfl (by decide) sk_133 rfl rfl (by omega) (by omega) ?_
  exact lb_tail (pc := 1701) A (by decide) wg_g dL_law__1701 dL_law__1703 dL_law__1704 dL_law__1707 dL_law__1709 dL_law__1714 dL_law__1716 dL_law__1719 dL_law__1720 dL_law__1721 dL_law__1722 dL_law__1724 dL_law__1725 dL_law__1726 dL_law__1731 (by decide) (by omega) (by omega) (j_widen (by omega) (by omega) (kk _ (I'.okD _)))
theorem lc_26 {Ω : mO} {Z : mZ} {n i : Int} {D : mD} {c0 k0 : Nat} (hi : 0 ≤ i ∧ i + 6 ≤ oPn Ω ∧ oPn Ω ≤ 3072) (I : INV n D) (hn : 0 ≤ n ∧ n ≤ 90000) (hc : c0 + 2 ≤ 601024) (hk : k0 + 12 ≤ 7293034) (kk : ∀ F, INV (n + 1) F → JL Ω Z 2818 (LSm i) [] F (c0 + 2) (k0 + 12)) : JL Ω Z 1734 (LSm i) [] D c0 k0 := by
  obtain ⟨E, v, F, h1, h2, I'⟩ := AnsI.step I (q_middle I.1 bzR)
  refine j_aload_n (pc' := 1735) dL_law__1734 rfl rfl ?_
  refine j_arg (pc' := 1741) (j := 1) dL_law__1735 dL_law__1736 dL_law__1738 dL_law__1739 dL_law__1740 rfl rfl rfl hi (by decide) ?_
  refine j_flag (pc' := 1749) dL_law__1741 dL_law__1744 dL_law__1745 dL_law__1748 rfl sxR ?_
  refine k_cV (pc' := 1752) (d' := 99) [mI (bz (sx Ω (i + 1)))] [] (c_X11_middle (d := 99) (by decide) h1) cw_L_226 kc_10 w_622 w_623 dL_law__1749 rfl (by decide) rfl rfl (by decide) sk_0 rfl rfl (by omega) (by omega) ?_
  refine j_aload_n (pc' := 1753) dL_law__1752 rfl rfl ?_
  refine j_arg (pc' := 1759) (j := 1) dL_law__1753 dL_law__1754 dL_law__1756 dL_law__1757 dL_law__1758 rfl rfl rfl hi (by decide) ?_
  refine j_flag (pc' := 1767) dL_law__1759 dL_law__1762 dL_law__1763 dL_law__1766 rfl sxR ?_
  refine k_cV (pc' := 1770) (d' := 99) [mI (bz (sx Ω (i + 1)))] [mI v] (c_X12_middle (d := 99) (by decide) h2) cw_L_229 kc_11 w_2088 w_2089 dL_law__1767 rfl (by decide) rfl rfl (by decide) sk_133 rfl rfl (by omega) (by omega) ?_
  refine j_icmp_same (tgt := 2818) dL_law__1770 rfl ?_
  exact j_widen (by omega) (by omega) (kk F I')
theorem lc_27 {Ω : mO} {Z : mZ} {n i : Int} {D : mD} {c0 k0 : Nat} (hi : 0 ≤ i ∧ i + 6 ≤ oPn Ω ∧ oPn Ω ≤ 3072) (I : INV n D) (hn : 0 ≤ n ∧ n ≤ 90000) (hc : c0 + 2 ≤ 601024) (hk : k0 + 12 ≤ 7293034) (kk : ∀ F, INV (n + 1) F → JL Ω Z 2818 (LSm i) [] F (c0 + 2) (k0 + 12)) : JL Ω Z 1775 (LSm i) [] D c0 k0 := by
  obtain ⟨r, E, v, F, h1, h2, A, I'⟩ := Ans.step I (q_read I.1 sxR sxR)
  refine j_aload_n (pc' := 1776) dL_law__1775 rfl rfl ?_
  refine j_arg (pc' := 1782) (j := 1) dL_law__1776 dL_law__1777 dL_law__1779 dL_law__1780 dL_law__1781 rfl rfl rfl hi (by decide) ?_
  refine j_arg (pc' := 1788) (j := 2) dL_law__1782 dL_law__1783 dL_law__1785 dL_law__1786 dL_law__1787 rfl rfl rfl hi (by decide) ?_
  refine j_aload_n (pc' := 1789) dL_law__1788 rfl rfl ?_
  refine j_callSX (pc' := 1792) (as := [mR 0, mI (sx Ω (i + 1)), mI (sx Ω (i + 2)), mR 148]) (rest := []) (d' := 99) (c' := 2) (k' := 12) (cl_read h1 A) cx_L_230 dL_law__1789 rfl (by decide) rfl rfl rfl rfl (by omega) (by omega) ?_
  refine j_istore (pc' := 1794) (ls' := [some (mR 2000000), some (mR 0), some (mR 133), some (mR 148), some (mI i), some (mI (F 133 0)), none]) dL_law__1792 rfl (by decide) rfl ?_
  refine j_aload_n (pc' := 1795) dL_law__1794 rfl rfl ?_
  refine j_arg (pc' := 1801) (j := 1) dL_law__1795 dL_law__1796 dL_law__1798 dL_law__1799 dL_law__1800 rfl rfl rfl hi (by decide) ?_
  refine j_arg (pc' := 1807) (j := 2) dL_law__1801 dL_law__1802 dL_law__1804 dL_law__1805 dL_law__1806 rfl rfl rfl hi (by decide) ?_
  have h3 : F_X12_read (sx Ω (i + 1)) (sx Ω (i + 2)) (oD E (wgB E r)) = some (v, oD F (wgB E r)) := by rw [fr_F_X12_read, h2]; rfl
  refine k_cV (pc' := 1810) (d' := 99) [mI (sx Ω (i + 1)), mI (sx Ω (i + 2))] [] (c_X12_read (d := 99) (by decide) h3) cw_L_232 kc_11 w_2100 w_2101 dL_law__1807 rfl (by decide) rfl rfl (by decide) sk_133 rfl rfl (by omega) (by omega) ?_
  exact lb_tailB (pc := 1810) A (by decide) wgB_g dL_law__1810 dL_law__1812 dL_law__1813 dL_law__1816 dL_law__1818 dL_law__1823 dL_law__1825 dL_law__1828 dL_law__1829 dL_law__1830 dL_law__1831 dL_law__1833 dL_law__1836 dL_law__1837 dL_law__1840 dL_law__1841 dL_law__1842 dL_law__1847 (by decide) (by omega) (by omega) (j_widen (by omega) (by omega) (kk _ (I'.okD _)))
theorem lc_28 {Ω : mO} {Z : mZ} {n i : Int} {D : mD} {c0 k0 : Nat} (hi : 0 ≤ i ∧ i + 6 ≤ oPn Ω ∧ oPn Ω ≤ 3072) (I : INV n D) (hn : 0 ≤ n ∧ n ≤ 90000) (hc : c0 + 2 ≤ 601024) (hk : k0 + 12 ≤ 7293034) (kk : ∀ F, INV (n + 1) F → JL Ω Z 2818 (LSm i) [] F (c0 + 2) (k0 + 12)) : JL Ω Z 1850 (LSm i) [] D c0 k0 := by
  obtain ⟨r, E, v, F, h1, h2, A, I'⟩ := Ans.step I (q_far I.1 sxR)
  refine j_aload_n (pc' := 1851) dL_law__1850 rfl rfl ?_
  refine j_arg (pc' := 1857) (j := 1) dL_law__1851 dL_law__1852 dL_law__1854 dL_law__1855 dL_law__1856 rfl rfl rfl hi (by decide) ?_
  refine j_aload_n (pc' := 1858) dL_law__1857 rfl rfl ?_
  refine j_callSX (pc' := 1861) (as := [mR 0, mI (sx Ω (i + 1)), mR 148]) (rest := []) (d' := 99) (c' := 1) (k' := 6) (cl_far h1 A) cx_L_233 dL_law__1858 rfl (by decide) rfl rfl rfl rfl (by omega) (by omega) ?_
  refine j_istore (pc' := 1863) (ls' := [some (mR 2000000), some (mR 0), some (mR 133), some (mR 148), some (mI i), some (mI (F 133 0)), none]) dL_law__1861 rfl (by decide) rfl ?_
  refine j_aload_n (pc' := 1864) dL_law__1863 rfl rfl ?_
  refine j_arg (pc' := 1870) (j := 1) dL_law__1864 dL_law__1865 dL_law__1867 dL_law__1868 dL_law__1869 rfl rfl rfl hi (by decide) ?_
  have h3 : F_X12_far (sx Ω (i + 1)) (oD E (wg E r)) = some (v, oD F (wg E r)) := by rw [fr_F_X12_far, h2]; rfl
  refine k_cV (pc' := 1873) (d' := 99) [mI (sx Ω (i + 1))] [] (c_X12_far (d := 99) (by decide) h3) cw_L_235 kc_11 w_2116 w_2117 dL_law__1870 rfl (by decide) rfl rfl (by decide) sk_133 rfl rfl (by omega) (by omega) ?_
  exact lb_tail (pc := 1873) A (by decide) wg_g dL_law__1873 dL_law__1875 dL_law__1876 dL_law__1879 dL_law__1881 dL_law__1886 dL_law__1888 dL_law__1891 dL_law__1892 dL_law__1893 dL_law__1894 dL_law__1896 dL_law__1897 dL_law__1898 dL_law__1903 (by decide) (by omega) (by omega) (j_widen (by omega) (by omega) (kk _ (I'.okD _)))
theorem lc_29 {Ω : mO} {Z : mZ} {n i : Int} {D : mD} {c0 k0 : Nat} (hi : 0 ≤ i ∧ i + 6 ≤ oPn Ω ∧ oPn Ω ≤ 3072) (I : INV n D) (hn : 0 ≤ n ∧ n ≤ 90000) (hc : c0 + 2 ≤ 601024) (hk : k0 + 12 ≤ 7293034) (kk : ∀ F, INV (n + 1) F → JL Ω Z 2818 (LSm i) [] F (c0 + 2) (k0 + 12)) : JL Ω Z 1906 (LSm i) [] D c0 k0 := by
  obtain ⟨r, E, v, F, h1, h2, A, I'⟩ := Ans.step I (q_runs I.1 sxR sxR)
  refine j_aload_n (pc' := 1907) dL_law__1906 rfl rfl ?_
  refine j_arg (pc' := 1913) (j := 1) dL_law__1907 dL_law__1908 dL_law__1910 dL_law__1911 dL_law__1912 rfl rfl rfl hi (by decide) ?_
  refine j_arg (pc' := 1919) (j := 2) dL_law__1913 dL_law__1914 dL_law__1916 dL_law__1917 dL_law__1918 rfl rfl rfl hi (by decide) ?_
  refine j_aload_n (pc' := 1920) dL_law__1919 rfl rfl ?_
  refine j_callSX (pc' := 1923) (as := [mR 0, mI (sx Ω (i + 1)), mI (sx Ω (i + 2)), mR 148]) (rest := []) (d' := 99) (c' := 2) (k' := 12) (cl_runs h1 A) cx_L_236 dL_law__1920 rfl (by decide) rfl rfl rfl rfl (by omega) (by omega) ?_
  refine j_istore (pc' := 1925) (ls' := [some (mR 2000000), some (mR 0), some (mR 133), some (mR 148), some (mI i), some (mI (F 133 0)), none]) dL_law__1923 rfl (by decide) rfl ?_
  refine j_aload_n (pc' := 1926) dL_law__1925 rfl rfl ?_
  refine j_arg (pc' := 1932) (j := 1) dL_law__1926 dL_law__1927 dL_law__1929 dL_law__1930 dL_law__1931 rfl rfl rfl hi (by decide) ?_
  refine j_arg (pc' := 1938) (j := 2) dL_law__1932 dL_law__1933 dL_law__1935 dL_law__1936 dL_law__1937 rfl rfl rfl hi (by decide) ?_
  have h3 : F_X12_runs (sx Ω (i + 1)) (sx Ω (i + 2)) (oD E (wg E r)) = some (v, oD F (wg E r)) := by rw [fr_F_X12_runs, h2]; rfl
  refine k_cV (pc' := 1941) (d' := 99) [mI (sx Ω (i + 1)), mI (sx Ω (i + 2))] [] (c_X12_runs (d := 99) (by decide) h3) cw_L_238 kc_11 w_2124 w_2125 dL_law__1938 rfl (by decide) rfl rfl (by decide) sk_133 rfl rfl (by omega) (by omega) ?_
  exact lb_tail (pc := 1941) A (by decide) wg_g dL_law__1941 dL_law__1943 dL_law__1944 dL_law__1947 dL_law__1949 dL_law__1954 dL_law__1956 dL_law__1959 dL_law__1960 dL_law__1961 dL_law__1962 dL_law__1964 dL_law__1965 dL_law__1966 dL_law__1971 (by decide) (by omega) (by omega) (j_widen (by omega) (by omega) (kk _ (I'.okD _)))
theorem lc_30 {Ω : mO} {Z : mZ} {n i : Int} {D : mD} {c0 k0 : Nat} (hi : 0 ≤ i ∧ i + 6 ≤ oPn Ω ∧ oPn Ω ≤ 3072) (I : INV n D) (hn : 0 ≤ n ∧ n ≤ 90000) (hc : c0 + 2 ≤ 601024) (hk : k0 + 12 ≤ 7293034) (kk : ∀ F, INV (n + 1) F → JL Ω Z 2818 (LSm i) [] F (c0 + 2) (k0 + 12)) : JL Ω Z 1974 (LSm i) [] D c0 k0 := by
  obtain ⟨r, E, v, F, h1, h2, A, I'⟩ := Ans.step I (q_bears I.1 sxR sxR)
  refine j_aload_n (pc' := 1975) dL_law__1974 rfl rfl ?_
  refine j_arg (pc' := 1981) (j := 1) dL_law__1975 dL_law__1976 dL_law__1978 dL_law__1979 dL_law__1980 rfl rfl rfl hi (by decide) ?_
  refine j_arg (pc' := 1987) (j := 2) dL_law__1981 dL_law__1982 dL_law__1984 dL_law__1985 dL_law__1986 rfl rfl rfl hi (by decide) ?_
  refine j_aload_n (pc' := 1988) dL_law__1987 rfl rfl ?_
  refine j_callSX (pc' := 1991) (as := [mR 0, mI (sx Ω (i + 1)), mI (sx Ω (i + 2)), mR 148]) (rest := []) (d' := 99) (c' := 2) (k' := 12) (cl_bears h1 A) cx_L_239 dL_law__1988 rfl (by decide) rfl rfl rfl rfl (by omega) (by omega) ?_
  refine j_istore (pc' := 1993) (ls' := [some (mR 2000000), some (mR 0), some (mR 133), some (mR 148), some (mI i), some (mI (F 133 0)), none]) dL_law__1991 rfl (by decide) rfl ?_
  refine j_aload_n (pc' := 1994) dL_law__1993 rfl rfl ?_
  refine j_arg (pc' := 2000) (j := 1) dL_law__1994 dL_law__1995 dL_law__1997 dL_law__1998 dL_law__1999 rfl rfl rfl hi (by decide) ?_
  refine j_arg (pc' := 2006) (j := 2) dL_law__2000 dL_law__2001 dL_law__2003 dL_law__2004 dL_law__2005 rfl rfl rfl hi (by decide) ?_
  have h3 : F_X12_bears (sx Ω (i + 1)) (sx Ω (i + 2)) (oD E (wg E r)) = some (v, oD F (wg E r)) := by rw [fr_F_X12_bears, h2]; rfl
  refine k_cV (pc' := 2009) (d' := 99) [mI (sx Ω (i + 1)), mI (sx Ω (i + 2))] [] (c_X12_bears (d := 99) (by decide) h3) cw_L_241 kc_11 w_2128 w_2129 dL_law__2006 rfl (by decide) rfl rfl (by decide) sk_133 rfl rfl (by omega) (by omega) ?_
  exact lb_tail (pc := 2009) A (by decide) wg_g dL_law__2009 dL_law__2011 dL_law__2012 dL_law__2015 dL_law__2017 dL_law__2022 dL_law__2024 dL_law__2027 dL_law__2028 dL_law__2029 dL_law__2030 dL_law__2032 dL_law__2033 dL_law__2034 dL_law__2039 (by decide) (by omega) (by omega) (j_widen (by omega) (by omega) (kk _ (I'.okD _)))
theorem lc_31 {Ω : mO} {Z : mZ} {n i : Int} {D : mD} {c0 k0 : Nat} (hi : 0 ≤ i ∧ i + 6 ≤ oPn Ω ∧ oPn Ω ≤ 3072) (I : INV n D) (hn : 0 ≤ n ∧ n ≤ 90000) (hc : c0 + 2 ≤ 601024) (hk : k0 + 12 ≤ 7293034) (kk : ∀ F, INV (n + 1) F → JL Ω Z 2818 (LSm i) [] F (c0 + 2) (k0 + 12)) : JL Ω Z 2042 (LSm i) [] D c0 k0 := by
  obtain ⟨E, v, F, h1, h2, I'⟩ := AnsI.step I (q_lamp I.1)
  refine j_aload_n (pc' := 2043) dL_law__2042 rfl rfl ?_
  refine k_cV (pc' := 2046) (d' := 99) [] [] (c_X11_lamp (d := 99) (by decide) h1) cw_L_242 kc_10 w_634 w_635 dL_law__2043 rfl (by decide) rfl rfl (by decide) sk_0 rfl rfl (by omega) (by omega) ?_
  refine j_aload_n (pc' := 2047) dL_law__2046 rfl rfl ?_
  refine k_cV (pc' := 2050) (d' := 99) [] [mI v] (c_X12_lamp (d := 99) (by decide) h2) cw_L_245 kc_11 w_2132 w_2133 dL_law__2047 rfl (by decide) rfl rfl (by decide) sk_133 rfl rfl (by omega) (by omega) ?_
  refine j_icmp_same (tgt := 2818) dL_law__2050 rfl ?_
  exact j_widen (by omega) (by omega) (kk F I')
theorem lc_32 {Ω : mO} {Z : mZ} {n i : Int} {D : mD} {c0 k0 : Nat} (hi : 0 ≤ i ∧ i + 6 ≤ oPn Ω ∧ oPn Ω ≤ 3072) (I : INV n D) (hn : 0 ≤ n ∧ n ≤ 90000) (hc : c0 + 2 ≤ 601024) (hk : k0 + 12 ≤ 7293034) (kk : ∀ F, INV (n + 1) F → JL Ω Z 2818 (LSm i) [] F (c0 + 2) (k0 + 12)) : JL Ω Z 2055 (LSm i) [] D c0 k0 := by
  obtain ⟨r, E, v, F, h1, h2, A, I'⟩ := Ans.step I (q_aslant I.1 sxR)
  refine j_aload_n (pc' := 2056) dL_law__2055 rfl rfl ?_
  refine j_arg (pc' := 2062) (j := 1) dL_law__2056 dL_law__2057 dL_law__2059 dL_law__2060 dL_law__2061 rfl rfl rfl hi (by decide) ?_
  refine j_aload_n (pc' := 2063) dL_law__2062 rfl rfl ?_
  refine j_callSX (pc' := 2066) (as := [mR 0, mI (sx Ω (i + 1)), mR 148]) (rest := []) (d' := 99) (c' := 1) (k' := 6) (cl_aslant h1 A) cx_L_246 dL_law__2063 rfl (by decide) rfl rfl rfl rfl (by omega) (by omega) ?_
  refine j_istore (pc' := 2068) (ls' := [some (mR 2000000), some (mR 0), some (mR 133), some (mR 148), some (mI i), some (mI (F 133 0)), none]) dL_law__2066 rfl (by decide) rfl ?_
  refine j_aload_n (pc' := 2069) dL_law__2068 rfl rfl ?_
  refine j_arg (pc' := 2075) (j := 1) dL_law__2069 dL_law__2070 dL_law__2072 dL_law__2073 dL_law__2074 rfl rfl rfl hi (by decide) ?_
  have h3 : F_X12_aslant (sx Ω (i + 1)) (oD E (wg E r)) = some (v, oD F (wg E r)) := by rw [fr_F_X12_aslant, h2]; rfl
  refine k_cV (pc' := 2078) (d' := 99) [mI (sx Ω (i + 1))] [] (c_X12_aslant (d := 99) (by decide) h3) cw_L_248 kc_11 w_2136 w_2137 dL_law__2075 rfl (by decide) rfl rfl (by decide) sk_133 rfl rfl (by omega) (by omega) ?_
  exact lb_tail (pc := 2078) A (by decide) wg_g dL_law__2078 dL_law__2080 dL_law__2081 dL_law__2084 dL_law__2086 dL_law__2091 dL_law__2093 dL_law__2096 dL_law__2097 dL_law__2098 dL_law__2099 dL_law__2101 dL_law__2102 dL_law__2103 dL_law__2108 (by decide) (by omega) (by omega) (j_widen (by omega) (by omega) (kk _ (I'.okD _)))
theorem lc_33 {Ω : mO} {Z : mZ} {n i : Int} {D : mD} {c0 k0 : Nat} (hi : 0 ≤ i ∧ i + 6 ≤ oPn Ω ∧ oPn Ω ≤ 3072) (I : INV n D) (hn : 0 ≤ n ∧ n ≤ 90000) (hc : c0 + 2 ≤ 601024) (hk : k0 + 12 ≤ 7293034) (kk : ∀ F, INV (n + 1) F → JL Ω Z 2818 (LSm i) [] F (c0 + 2) (k0 + 12)) : JL Ω Z 2111 (LSm i) [] D c0 k0 := by
  obtain ⟨E, v, F, h1, h2, I'⟩ := AnsI.step I (q_from I.1)
  refine j_aload_n (pc' := 2112) dL_law__2111 rfl rfl ?_
  refine k_cV (pc' := 2115) (d' := 99) [] [] (c_X11_from (d := 99) (by decide) h1) cw_L_249 kc_10 w_662 w_663 dL_law__2112 rfl (by decide) rfl rfl (by decide) sk_0 rfl rfl (by omega) (by omega) ?_
  refine j_aload_n (pc' := 2116) dL_law__2115 rfl rfl ?_
  refine k_cV (pc' := 2119) (d' := 99) [] [mI v] (c_X12_from (d := 99) (by decide) h2) cw_L_252 kc_11 w_2144 w_2145 dL_law__2116 rfl (by decide) rfl rfl (by decide) sk_133 rfl rfl (by omega) (by omega) ?_
  refine j_icmp_same (tgt := 2818) dL_law__2119 rfl ?_
  exact j_widen (by omega) (by omega) (kk F I')
theorem lc_34 {Ω : mO} {Z : mZ} {n i : Int} {D : mD} {c0 k0 : Nat} (hi : 0 ≤ i ∧ i + 6 ≤ oPn Ω ∧ oPn Ω ≤ 3072) (I : INV n D) (hn : 0 ≤ n ∧ n ≤ 90000) (hc : c0 + 2 ≤ 601024) (hk : k0 + 12 ≤ 7293034) (kk : ∀ F, INV (n + 1) F → JL Ω Z 2818 (LSm i) [] F (c0 + 2) (k0 + 12)) : JL Ω Z 2124 (LSm i) [] D c0 k0 := by
  obtain ⟨r, E, v, F, h1, h2, A, I'⟩ := Ans.step I (q_ends I.1 sxR)
  refine j_aload_n (pc' := 2125) dL_law__2124 rfl rfl ?_
  refine j_arg (pc' := 2131) (j := 1) dL_law__2125 dL_law__2126 dL_law__2128 dL_law__2129 dL_law__2130 rfl rfl rfl hi (by decide) ?_
  refine j_aload_n (pc' := 2132) dL_law__2131 rfl rfl ?_
  refine j_callSX (pc' := 2135) (as := [mR 0, mI (sx Ω (i + 1)), mR 148]) (rest := []) (d' := 99) (c' := 1) (k' := 6) (cl_ends h1 A) cx_L_253 dL_law__2132 rfl (by decide) rfl rfl rfl rfl (by omega) (by omega) ?_
  refine j_istore (pc' := 2137) (ls' := [some (mR 2000000), some (mR 0), some (mR 133), some (mR 148), some (mI i), some (mI (F 133 0)), none]) dL_law__2135 rfl (by decide) rfl ?_
  refine j_aload_n (pc' := 2138) dL_law__2137 rfl rfl ?_
  refine j_arg (pc' := 2144) (j := 1) dL_law__2138 dL_law__2139 dL_law__2141 dL_law__2142 dL_law__2143 rfl rfl rfl hi (by decide) ?_
  have h3 : F_X12_ends (sx Ω (i + 1)) (oD E (wg E r)) = some (v, oD F (wg E r)) := by rw [fr_F_X12_ends, h2]; rfl
  refine k_cV (pc' := 2147) (d' := 99) [mI (sx Ω (i + 1))] [] (c_X12_ends (d := 99) (by decide) h3) cw_L_255 kc_11 w_2148 w_2149 dL_law__2144 rfl (by decide) rfl rfl (by decide) sk_133 rfl rfl (by omega) (by omega) ?_
  exact lb_tail (pc := 2147) A (by decide) wg_g dL_law__2147 dL_law__2149 dL_law__2150 dL_law__2153 dL_law__2155 dL_law__2160 dL_law__2162 dL_law__2165 dL_law__2166 dL_law__2167 dL_law__2168 dL_law__2170 dL_law__2171 dL_law__2172 dL_law__2177 (by decide) (by omega) (by omega) (j_widen (by omega) (by omega) (kk _ (I'.okD _)))
theorem lc_35 {Ω : mO} {Z : mZ} {n i : Int} {D : mD} {c0 k0 : Nat} (hi : 0 ≤ i ∧ i + 6 ≤ oPn Ω ∧ oPn Ω ≤ 3072) (I : INV n D) (hn : 0 ≤ n ∧ n ≤ 90000) (hc : c0 + 2 ≤ 601024) (hk : k0 + 12 ≤ 7293034) (kk : ∀ F, INV (n + 1) F → JL Ω Z 2818 (LSm i) [] F (c0 + 2) (k0 + 12)) : JL Ω Z 2180 (LSm i) [] D c0 k0 := by
  obtain ⟨E, v, F, h1, h2, I'⟩ := AnsI.step I (q_order I.1 ⟨hn.1, by omega⟩ sxR)
  refine j_aload_n (pc' := 2181) dL_law__2180 rfl rfl ?_
  refine j_arg (pc' := 2187) (j := 1) dL_law__2181 dL_law__2182 dL_law__2184 dL_law__2185 dL_law__2186 rfl rfl rfl hi (by decide) ?_
  refine k_cV (pc' := 2190) (d' := 99) [mI (sx Ω (i + 1))] [] (c_X11_order (d := 99) (by decide) h1) cw_L_256 kc_10 w_666 w_667 dL_law__2187 rfl (by decide) rfl rfl (by decide) sk_0 rfl rfl (by omega) (by omega) ?_
  refine j_aload_n (pc' := 2191) dL_law__2190 rfl rfl ?_
  refine j_arg (pc' := 2197) (j := 1) dL_law__2191 dL_law__2192 dL_law__2194 dL_law__2195 dL_law__2196 rfl rfl rfl hi (by decide) ?_
  refine k_cV (pc' := 2200) (d' := 99) [mI (sx Ω (i + 1))] [mI v] (c_X12_order (d := 99) (by decide) h2) cw_L_259 kc_11 w_1981 w_1982 dL_law__2197 rfl (by decide) rfl rfl (by decide) sk_133 rfl rfl (by omega) (by omega) ?_
  refine j_icmp_same (tgt := 2818) dL_law__2200 rfl ?_
  exact j_widen (by omega) (by omega) (kk F I')
theorem lc_36 {Ω : mO} {Z : mZ} {n i : Int} {D : mD} {c0 k0 : Nat} (hi : 0 ≤ i ∧ i + 6 ≤ oPn Ω ∧ oPn Ω ≤ 3072) (I : INV n D) (hn : 0 ≤ n ∧ n ≤ 90000) (hc : c0 + 2 ≤ 601024) (hk : k0 + 12 ≤ 7293034) (kk : ∀ F, INV (n + 1) F → JL Ω Z 2818 (LSm i) [] F (c0 + 2) (k0 + 12)) : JL Ω Z 2205 (LSm i) [] D c0 k0 := by
  obtain ⟨E, v, F, h1, h2, I'⟩ := AnsI.step I (q_brush I.1 (by omega))
  refine j_aload_n (pc' := 2206) dL_law__2205 rfl rfl ?_
  refine k_cV (pc' := 2209) (d' := 99) [] [] (c_X11_brush (d := 99) (by decide) h1) cw_L_260 kc_10 w_680 w_681 dL_law__2206 rfl (by decide) rfl rfl (by decide) sk_0 rfl rfl (by omega) (by omega) ?_
  refine j_aload_n (pc' := 2210) dL_law__2209 rfl rfl ?_
  refine k_cV (pc' := 2213) (d' := 99) [] [mI v] (c_X12_brush (d := 99) (by decide) h2) cw_L_263 kc_11 w_2001 w_2002 dL_law__2210 rfl (by decide) rfl rfl (by decide) sk_133 rfl rfl (by omega) (by omega) ?_
  refine j_icmp_same (tgt := 2818) dL_law__2213 rfl ?_
  exact j_widen (by omega) (by omega) (kk F I')
theorem lc_37 {Ω : mO} {Z : mZ} {n i : Int} {D : mD} {c0 k0 : Nat} (hi : 0 ≤ i ∧ i + 6 ≤ oPn Ω ∧ oPn Ω ≤ 3072) (I : INV n D) (hn : 0 ≤ n ∧ n ≤ 90000) (hc : c0 + 2 ≤ 601024) (hk : k0 + 12 ≤ 7293034) (kk : ∀ F, INV (n + 1) F → JL Ω Z 2818 (LSm i) [] F (c0 + 2) (k0 + 12)) : JL Ω Z 2218 (LSm i) [] D c0 k0 := by
  obtain ⟨r, E, v, F, h1, h2, A, I'⟩ := a_wrote I
  refine j_aload_n (pc' := 2219) dL_law__2218 rfl rfl ?_
  refine j_aload_n (pc' := 2220) dL_law__2219 rfl rfl ?_
  refine j_callSX (pc' := 2223) (as := [mR 0, mR 148]) (rest := []) (d' := 99) (c' := 1) (k' := 6) (cl_wrote h1 A) cx_L_264 dL_law__2220 rfl (by decide) rfl rfl rfl rfl (by omega) (by omega) ?_
  refine j_istore (pc' := 2225) (ls' := [some (mR 2000000), some (mR 0), some (mR 133), some (mR 148), some (mI i), some (mI (F 133 0)), none]) dL_law__2223 rfl (by decide) rfl ?_
  refine j_aload_n (pc' := 2226) dL_law__2225 rfl rfl ?_
  have h3 : F_X12_wrote (oD E (wg E r)) = some (v, oD F (wg E r)) := by rw [fr_F_X12_wrote, h2]; rfl
  refine k_cV (pc' := 2229) (d' := 99) [] [] (c_X12_wrote (d := 99) (by decide) h3) cw_L_266 kc_11 w_2152 w_2153 dL_law__2226 rfl (by decide) rfl rfl (by decide) sk_133 rfl rfl (by omega) (by omega) ?_
  exact lb_tail (pc := 2229) A (by decide) wg_g dL_law__2229 dL_law__2231 dL_law__2232 dL_law__2235 dL_law__2237 dL_law__2242 dL_law__2244 dL_law__2247 dL_law__2248 dL_law__2249 dL_law__2250 dL_law__2252 dL_law__2253 dL_law__2254 dL_law__2259 (by decide) (by omega) (by omega) (j_widen (by omega) (by omega) (kk _ (I'.okD _)))
theorem lc_38 {Ω : mO} {Z : mZ} {n i : Int} {D : mD} {c0 k0 : Nat} (hi : 0 ≤ i ∧ i + 6 ≤ oPn Ω ∧ oPn Ω ≤ 3072) (I : INV n D) (hn : 0 ≤ n ∧ n ≤ 90000) (hc : c0 + 2 ≤ 601024) (hk : k0 + 12 ≤ 7293034) (kk : ∀ F, INV (n + 1) F → JL Ω Z 2818 (LSm i) [] F (c0 + 2) (k0 + 12)) : JL Ω Z 2262 (LSm i) [] D c0 k0 := by
  obtain ⟨r, E, v, F, h1, h2, A, I'⟩ := a_likely I sxR
  refine j_aload_n (pc' := 2263) dL_law__2262 rfl rfl ?_
  refine j_arg (pc' := 2269) (j := 1) dL_law__2263 dL_law__2264 dL_law__2266 dL_law__2267 dL_law__2268 rfl rfl rfl hi (by decide) ?_
  refine j_aload_n (pc' := 2270) dL_law__2269 rfl rfl ?_
  refine j_callSX (pc' := 2273) (as := [mR 0, mI (sx Ω (i + 1)), mR 148]) (rest := []) (d' := 99) (c' := 2) (k' := 12) (cl_likely h1 A) cx_L_267 dL_law__2270 rfl (by decide) rfl rfl rfl rfl (by omega) (by omega) ?_
  refine j_istore (pc' := 2275) (ls' := [some (mR 2000000), some (mR 0), some (mR 133), some (mR 148), some (mI i), some (mI (F 133 0)), none]) dL_law__2273 rfl (by decide) rfl ?_
  refine j_aload_n (pc' := 2276) dL_law__2275 rfl rfl ?_
  refine j_arg (pc' := 2282) (j := 1) dL_law__2276 dL_law__2277 dL_law__2279 dL_law__2280 dL_law__2281 rfl rfl rfl hi (by decide) ?_
  have h3 : F_X12_likely (sx Ω (i + 1)) (oD E (wg E r)) = some (v, oD F (wg E r)) := by rw [fr_F_X12_likely, h2]; rfl
  refine k_cV (pc' := 2285) (d' := 99) [mI (sx Ω (i + 1))] [] (c_X12_likely (d := 99) (by decide) h3) cw_L_269 kc_11 w_2172 w_2173 dL_law__2282 rfl (by decide) rfl rfl (by decide) sk_133 rfl rfl (by omega) (by omega) ?_
  exact lb_tail (pc := 2285) A (by decide) wg_g dL_law__2285 dL_law__2287 dL_law__2288 dL_law__2291 dL_law__2293 dL_law__2298 dL_law__2300 dL_law__2303 dL_law__2304 dL_law__2305 dL_law__2306 dL_law__2308 dL_law__2309 dL_law__2310 dL_law__2315 (by decide) (by omega) (by omega) (j_widen (by omega) (by omega) (kk _ (I'.okD _)))
theorem lc_39 {Ω : mO} {Z : mZ} {n i : Int} {D : mD} {c0 k0 : Nat} (hi : 0 ≤ i ∧ i + 6 ≤ oPn Ω ∧ oPn Ω ≤ 3072) (I : INV n D) (hn : 0 ≤ n ∧ n ≤ 90000) (hc : c0 + 2 ≤ 601024) (hk : k0 + 12 ≤ 7293034) (kk : ∀ F, INV (n + 1) F → JL Ω Z 2818 (LSm i) [] F (c0 + 2) (k0 + 12)) : JL Ω Z 2318 (LSm i) [] D c0 k0 := by
  obtain ⟨E, v, F, h1, h2, I'⟩ := AnsI.step I (q_lookers I.1 bzR)
  refine j_aload_n (pc' := 2319) dL_law__2318 rfl rfl ?_
  refine j_arg (pc' := 2325) (j := 1) dL_law__2319 dL_law__2320 dL_law__2322 dL_law__2323 dL_law__2324 rfl rfl rfl hi (by decide) ?_
  refine j_flag (pc' := 2333) dL_law__2325 dL_law__2328 dL_law__2329 dL_law__2332 rfl sxR ?_
  refine k_cV (pc' := 2336) (d' := 99) [mI (bz (sx Ω (i + 1)))] [] (c_X11_lookers (d := 99) (by decide) h1) cw_L_270 kc_10 w_698 w_699 dL_law__2333 rfl (by decide) rfl rfl (by decide) sk_0 rfl rfl (by omega) (by omega) ?_
  refine j_aload_n (pc' := 2337) dL_law__2336 rfl rfl ?_
  refine j_arg (pc' := 2343) (j := 1) dL_law__2337 dL_law__2338 dL_law__2340 dL_law__2341 dL_law__2342 rfl rfl rfl hi (by decide) ?_
  refine j_flag (pc' := 2351) dL_law__2343 dL_law__2346 dL_law__2347 dL_law__2350 rfl sxR ?_
  refine k_cV (pc' := 2354) (d' := 99) [mI (bz (sx Ω (i + 1)))] [mI v] (c_X12_lookers (d := 99) (by decide) h2) cw_L_273 kc_11 w_2176 w_2177 dL_law__2351 rfl (by decide) rfl rfl (by decide) sk_133 rfl rfl (by omega) (by omega) ?_
  refine j_icmp_same (tgt := 2818) dL_law__2354 rfl ?_
  exact j_widen (by omega) (by omega) (kk F I')
theorem lc_40 {Ω : mO} {Z : mZ} {n i : Int} {D : mD} {c0 k0 : Nat} (hi : 0 ≤ i ∧ i + 6 ≤ oPn Ω ∧ oPn Ω ≤ 3072) (I : INV n D) (hn : 0 ≤ n ∧ n ≤ 90000) (hc : c0 + 2 ≤ 601024) (hk : k0 + 12 ≤ 7293034) (kk : ∀ F, INV (n + 1) F → JL Ω Z 2818 (LSm i) [] F (c0 + 2) (k0 + 12)) : JL Ω Z 2359 (LSm i) [] D c0 k0 := by
  obtain ⟨r, E, v, F, h1, h2, A, I'⟩ := Ans.step I (q_inch I.1 sxR)
  refine j_aload_n (pc' := 2360) dL_law__2359 rfl rfl ?_
  refine j_arg (pc' := 2366) (j := 1) dL_law__2360 dL_law__2361 dL_law__2363 dL_law__2364 dL_law__2365 rfl rfl rfl hi (by decide) ?_
  refine j_aload_n (pc' := 2367) dL_law__2366 rfl rfl ?_
  refine j_callSX (pc' := 2370) (as := [mR 0, mI (sx Ω (i + 1)), mR 148]) (rest := []) (d' := 99) (c' := 1) (k' := 6) (cl_inch h1 A) cx_L_274 dL_law__2367 rfl (by decide) rfl rfl rfl rfl (by omega) (by omega) ?_
  refine j_istore (pc' := 2372) (ls' := [some (mR 2000000), some (mR 0), some (mR 133), some (mR 148), some (mI i), some (mI (F 133 0)), none]) dL_law__2370 rfl (by decide) rfl ?_
  refine j_aload_n (pc' := 2373) dL_law__2372 rfl rfl ?_
  refine j_arg (pc' := 2379) (j := 1) dL_law__2373 dL_law__2374 dL_law__2376 dL_law__2377 dL_law__2378 rfl rfl rfl hi (by decide) ?_
  have h3 : F_X12_inch (sx Ω (i + 1)) (oD E (wg E r)) = some (v, oD F (wg E r)) := by rw [fr_F_X12_inch, h2]; rfl
  refine k_cV (pc' := 2382) (d' := 99) [mI (sx Ω (i + 1))] [] (c_X12_inch (d := 99) (by decide) h3) cw_L_276 kc_11 w_1940 w_1941 dL_law__2379 rfl (by decide) rfl rfl (by decide) sk_133 rfl rfl (by omega) (by omega) ?_
  exact lb_tail (pc := 2382) A (by decide) wg_g dL_law__2382 dL_law__2384 dL_law__2385 dL_law__2388 dL_law__2390 dL_law__2395 dL_law__2397 dL_law__2400 dL_law__2401 dL_law__2402 dL_law__2403 dL_law__2405 dL_law__2406 dL_law__2407 dL_law__2412 (by decide) (by omega) (by omega) (j_widen (by omega) (by omega) (kk _ (I'.okD _)))
theorem lc_41 {Ω : mO} {Z : mZ} {n i : Int} {D : mD} {c0 k0 : Nat} (hi : 0 ≤ i ∧ i + 6 ≤ oPn Ω ∧ oPn Ω ≤ 3072) (I : INV n D) (hn : 0 ≤ n ∧ n ≤ 90000) (hc : c0 + 2 ≤ 601024) (hk : k0 + 12 ≤ 7293034) (kk : ∀ F, INV (n + 1) F → JL Ω Z 2818 (LSm i) [] F (c0 + 2) (k0 + 12)) : JL Ω Z 2415 (LSm i) [] D c0 k0 := by
  obtain ⟨r, E, v, F, h1, h2, A, I'⟩ := Ans.step I (q_trial I.1 hn sxR sxR bzR)
  refine j_aload_n (pc' := 2416) dL_law__2415 rfl rfl ?_
  refine j_arg (pc' := 2422) (j := 1) dL_law__2416 dL_law__2417 dL_law__2419 dL_law__2420 dL_law__2421 rfl rfl rfl hi (by decide) ?_
  refine j_arg (pc' := 2428) (j := 2) dL_law__2422 dL_law__2423 dL_law__2425 dL_law__2426 dL_law__2427 rfl rfl rfl hi (by decide) ?_
  refine j_arg (pc' := 2434) (j := 3) dL_law__2428 dL_law__2429 dL_law__2431 dL_law__2432 dL_law__2433 rfl rfl rfl hi (by decide) ?_
  refine j_flag (pc' := 2442) dL_law__2434 dL_law__2437 dL_law__2438 dL_law__2441 rfl sxR ?_
  refine j_aload_n (pc' := 2443) dL_law__2442 rfl rfl ?_
  refine j_callSX (pc' := 2446) (as := [mR 0, mI (sx Ω (i + 1)), mI (sx Ω (i + 2)), mI (bz (sx Ω (i + 3))), mR 148]) (rest := []) (d' := 99) (c' := 2) (k' := 12) (cl_trial h1 A) cx_L_277 dL_law__2443 rfl (by decide) rfl rfl rfl rfl (by omega) (by omega) ?_
  refine j_istore (pc' := 2448) (ls' := [some (mR 2000000), some (mR 0), some (mR 133), some (mR 148), some (mI i), some (mI (F 133 0)), none]) dL_law__2446 rfl (by decide) rfl ?_
  refine j_aload_n (pc' := 2449) dL_law__2448 rfl rfl ?_
  refine j_arg (pc' := 2455) (j := 1) dL_law__2449 dL_law__2450 dL_law__2452 dL_law__2453 dL_law__2454 rfl rfl rfl hi (by decide) ?_
  refine j_arg (pc' := 2461) (j := 2) dL_law__2455 dL_law__2456 dL_law__2458 dL_law__2459 dL_law__2460 rfl rfl rfl hi (by decide) ?_
  refine j_arg (pc' := 2467) (j := 3) dL_law__2461 dL_law__2462 dL_law__2464 dL_law__2465 dL_law__2466 rfl rfl rfl hi (by decide) ?_
  refine j_flag (pc' := 2475) dL_law__2467 dL_law__2470 dL_law__2471 dL_law__2474 rfl sxR ?_
  have h3 : F_X12_trial (sx Ω (i + 1)) (sx Ω (i + 2)) (bz (sx Ω (i + 3))) (oD E (wg E r)) = some (v, oD F (wg E r)) := by rw [fr_F_X12_trial, h2]; rfl
  refine k_cV (pc' := 2478) (d' := 99) [mI (sx Ω (i + 1)), mI (sx Ω (i + 2)), mI (bz (sx Ω (i + 3)))] [] (c_X12_trial (d := 99) (by decide) h3) cw_L_279 kc_11 w_2180 w_2181 dL_law__2475 rfl (by decide) rfl rfl (by decide) sk_133 rfl rfl (by omega) (by omega) ?_
  exact lb_tail (pc := 2478) A (by decide) wg_g dL_law__2478 dL_law__2480 dL_law__2481 dL_law__2484 dL_law__2486 dL_law__2491 dL_law__2493 dL_law__2496 dL_law__2497 dL_law__2498 dL_law__2499 dL_law__2501 dL_law__2502 dL_law__2503 dL_law__2508 (by decide) (by omega) (by omega) (j_widen (by omega) (by omega) (kk _ (I'.okD _)))
theorem lc_42 {Ω : mO} {Z : mZ} {n i : Int} {D : mD} {c0 k0 : Nat} (hi : 0 ≤ i ∧ i + 6 ≤ oPn Ω ∧ oPn Ω ≤ 3072) (I : INV n D) (hn : 0 ≤ n ∧ n ≤ 90000) (hc : c0 + 2 ≤ 601024) (hk : k0 + 12 ≤ 7293034) (kk : ∀ F, INV (n + 1) F → JL Ω Z 2818 (LSm i) [] F (c0 + 2) (k0 + 12)) : JL Ω Z 2511 (LSm i) [] D c0 k0 := by
  obtain ⟨r, E, v, F, h1, h2, A, I'⟩ := Ans.step I (q_span I.1 hn sxR sxR bzR)
  refine j_aload_n (pc' := 2512) dL_law__2511 rfl rfl ?_
  refine j_arg (pc' := 2518) (j := 1) dL_law__2512 dL_law__2513 dL_law__2515 dL_law__2516 dL_law__2517 rfl rfl rfl hi (by decide) ?_
  refine j_arg (pc' := 2524) (j := 2) dL_law__2518 dL_law__2519 dL_law__2521 dL_law__2522 dL_law__2523 rfl rfl rfl hi (by decide) ?_
  refine j_arg (pc' := 2530) (j := 3) dL_law__2524 dL_law__2525 dL_law__2527 dL_law__2528 dL_law__2529 rfl rfl rfl hi (by decide) ?_
  refine j_flag (pc' := 2538) dL_law__2530 dL_law__2533 dL_law__2534 dL_law__2537 rfl sxR ?_
  refine j_aload_n (pc' := 2539) dL_law__2538 rfl rfl ?_
  refine j_callSX (pc' := 2542) (as := [mR 0, mI (sx Ω (i + 1)), mI (sx Ω (i + 2)), mI (bz (sx Ω (i + 3))), mR 148]) (rest := []) (d' := 99) (c' := 2) (k' := 12) (cl_span h1 A) cx_L_280 dL_law__2539 rfl (by decide) rfl rfl rfl rfl (by omega) (by omega) ?_
  refine j_istore (pc' := 2544) (ls' := [some (mR 2000000), some (mR 0), some (mR 133), some (mR 148), some (mI i), some (mI (F 133 0)), none]) dL_law__2542 rfl (by decide) rfl ?_
  refine j_aload_n (pc' := 2545) dL_law__2544 rfl rfl ?_
  refine j_arg (pc' := 2551) (j := 1) dL_law__2545 dL_law__2546 dL_law__2548 dL_law__2549 dL_law__2550 rfl rfl rfl hi (by decide) ?_
  refine j_arg (pc' := 2557) (j := 2) dL_law__2551 dL_law__2552 dL_law__2554 dL_law__2555 dL_law__2556 rfl rfl rfl hi (by decide) ?_
  refine j_arg (pc' := 2563) (j := 3) dL_law__2557 dL_law__2558 dL_law__2560 dL_law__2561 dL_law__2562 rfl rfl rfl hi (by decide) ?_
  refine j_flag (pc' := 2571) dL_law__2563 dL_law__2566 dL_law__2567 dL_law__2570 rfl sxR ?_
  have h3 : F_X12_span (sx Ω (i + 1)) (sx Ω (i + 2)) (bz (sx Ω (i + 3))) (oD E (wg E r)) = some (v, oD F (wg E r)) := by rw [fr_F_X12_span, h2]; rfl
  refine k_cV (pc' := 2574) (d' := 99) [mI (sx Ω (i + 1)), mI (sx Ω (i + 2)), mI (bz (sx Ω (i + 3)))] [] (c_X12_span (d := 99) (by decide) h3) cw_L_282 kc_11 w_2189 w_2190 dL_law__2571 rfl (by decide) rfl rfl (by decide) sk_133 rfl rfl (by omega) (by omega) ?_
  exact lb_tail (pc := 2574) A (by decide) wg_g dL_law__2574 dL_law__2576 dL_law__2577 dL_law__2580 dL_law__2582 dL_law__2587 dL_law__2589 dL_law__2592 dL_law__2593 dL_law__2594 dL_law__2595 dL_law__2597 dL_law__2598 dL_law__2599 dL_law__2604 (by decide) (by omega) (by omega) (j_widen (by omega) (by omega) (kk _ (I'.okD _)))
theorem lc_43 {Ω : mO} {Z : mZ} {n i : Int} {D : mD} {c0 k0 : Nat} (hi : 0 ≤ i ∧ i + 6 ≤ oPn Ω ∧ oPn Ω ≤ 3072) (I : INV n D) (hn : 0 ≤ n ∧ n ≤ 90000) (hc : c0 + 2 ≤ 601024) (hk : k0 + 12 ≤ 7293034) (kk : ∀ F, INV (n + 1) F → JL Ω Z 2818 (LSm i) [] F (c0 + 2) (k0 + 12)) : JL Ω Z 2607 (LSm i) [] D c0 k0 := by
  obtain ⟨r, E, v, F, h1, h2, A, I'⟩ := Ans.step I (q_slips I.1 (by omega) sxR)
  refine j_aload_n (pc' := 2608) dL_law__2607 rfl rfl ?_
  refine j_arg (pc' := 2614) (j := 1) dL_law__2608 dL_law__2609 dL_law__2611 dL_law__2612 dL_law__2613 rfl rfl rfl hi (by decide) ?_
  refine j_aload_n (pc' := 2615) dL_law__2614 rfl rfl ?_
  refine j_callSX (pc' := 2618) (as := [mR 0, mI (sx Ω (i + 1)), mR 148]) (rest := []) (d' := 99) (c' := 1) (k' := 6) (cl_slips h1 A) cx_L_283 dL_law__2615 rfl (by decide) rfl rfl rfl rfl (by omega) (by omega) ?_
  refine j_istore (pc' := 2620) (ls' := [some (mR 2000000), some (mR 0), some (mR 133), some (mR 148), some (mI i), some (mI (F 133 0)), none]) dL_law__2618 rfl (by decide) rfl ?_
  refine j_aload_n (pc' := 2621) dL_law__2620 rfl rfl ?_
  refine j_arg (pc' := 2627) (j := 1) dL_law__2621 dL_law__2622 dL_law__2624 dL_law__2625 dL_law__2626 rfl rfl rfl hi (by decide) ?_
  have h3 : F_X12_slips (sx Ω (i + 1)) (oD E (wg E r)) = some (v, oD F (wg E r)) := by rw [fr_F_X12_slips, h2]; rfl
  refine k_cV (pc' := 2630) (d' := 99) [mI (sx Ω (i + 1))] [] (c_X12_slips (d := 99) (by decide) h3) cw_L_285 kc_11 w_2193 w_2194 dL_law__2627 rfl (by decide) rfl rfl (by decide) sk_133 rfl rfl (by omega) (by omega) ?_
  exact lb_tail (pc := 2630) A (by decide) wg_g dL_law__2630 dL_law__2632 dL_law__2633 dL_law__2636 dL_law__2638 dL_law__2643 dL_law__2645 dL_law__2648 dL_law__2649 dL_law__2650 dL_law__2651 dL_law__2653 dL_law__2654 dL_law__2655 dL_law__2660 (by decide) (by omega) (by omega) (j_widen (by omega) (by omega) (kk _ (I'.okD _)))
theorem lc_44 {Ω : mO} {Z : mZ} {n i : Int} {D : mD} {c0 k0 : Nat} (hi : 0 ≤ i ∧ i + 6 ≤ oPn Ω ∧ oPn Ω ≤ 3072) (I : INV n D) (hn : 0 ≤ n ∧ n ≤ 90000) (hc : c0 + 2 ≤ 601024) (hk : k0 + 12 ≤ 7293034) (kk : ∀ F, INV (n + 1) F → JL Ω Z 2818 (LSm i) [] F (c0 + 2) (k0 + 12)) : JL Ω Z 2663 (LSm i) [] D c0 k0 := by
  obtain ⟨r, E, v, F, h1, h2, A, I'⟩ := Ans.step I (q_log I.1 sxR sxR)
  refine j_aload_n (pc' := 2664) dL_law__2663 rfl rfl ?_
  refine j_arg (pc' := 2670) (j := 1) dL_law__2664 dL_law__2665 dL_law__2667 dL_law__2668 dL_law__2669 rfl rfl rfl hi (by decide) ?_
  refine j_arg (pc' := 2676) (j := 2) dL_law__2670 dL_law__2671 dL_law__2673 dL_law__2674 dL_law__2675 rfl rfl rfl hi (by decide) ?_
  refine j_aload_n (pc' := 2677) dL_law__2676 rfl rfl ?_
  refine j_callSX (pc' := 2680) (as := [mR 0, mI (sx Ω (i + 1)), mI (sx Ω (i + 2)), mR 148]) (rest := []) (d' := 99) (c' := 1) (k' := 6) (cl_log h1 A) cx_L_286 dL_law__2677 rfl (by decide) rfl rfl rfl rfl (by omega) (by omega) ?_
  refine j_istore (pc' := 2682) (ls' := [some (mR 2000000), some (mR 0), some (mR 133), some (mR 148), some (mI i), some (mI (F 133 0)), none]) dL_law__2680 rfl (by decide) rfl ?_
  refine j_aload_n (pc' := 2683) dL_law__2682 rfl rfl ?_
  refine j_arg (pc' := 2689) (j := 1) dL_law__2683 dL_law__2684 dL_law__2686 dL_law__2687 dL_law__2688 rfl rfl rfl hi (by decide) ?_
  refine j_arg (pc' := 2695) (j := 2) dL_law__2689 dL_law__2690 dL_law__2692 dL_law__2693 dL_law__2694 rfl rfl rfl hi (by decide) ?_
  have h3 : F_X12_log (sx Ω (i + 1)) (sx Ω (i + 2)) (oD E (wg E r)) = some (v, oD F (wg E r)) := by rw [fr_F_X12_log, h2]; rfl
  refine k_cV (pc' := 2698) (d' := 99) [mI (sx Ω (i + 1)), mI (sx Ω (i + 2))] [] (c_X12_log (d := 99) (by decide) h3) cw_L_288 kc_11 w_2201 w_2202 dL_law__2695 rfl (by decide) rfl rfl (by decide) sk_133 rfl rfl (by omega) (by omega) ?_
  exact lb_tail (pc := 2698) A (by decide) wg_g dL_law__2698 dL_law__2700 dL_law__2701 dL_law__2704 dL_law__2706 dL_law__2711 dL_law__2713 dL_law__2716 dL_law__2717 dL_law__2718 dL_law__2719 dL_law__2721 dL_law__2722 dL_law__2723 dL_law__2728 (by decide) (by omega) (by omega) (j_widen (by omega) (by omega) (kk _ (I'.okD _)))
theorem lc_45 {Ω : mO} {Z : mZ} {n i : Int} {D : mD} {c0 k0 : Nat} (hi : 0 ≤ i ∧ i + 6 ≤ oPn Ω ∧ oPn Ω ≤ 3072) (I : INV n D) (hn : 0 ≤ n ∧ n ≤ 90000) (hc : c0 + 2 ≤ 601024) (hk : k0 + 12 ≤ 7293034) (kk : ∀ F, INV (n + 1) F → JL Ω Z 2818 (LSm i) [] F (c0 + 2) (k0 + 12)) : JL Ω Z 2731 (LSm i) [] D c0 k0 := by
  obtain ⟨E, v, F, h1, h2, I'⟩ := a_seed I sxR
  refine j_aload_n (pc' := 2732) dL_law__2731 rfl rfl ?_
  refine j_arg (pc' := 2738) (j := 1) dL_law__2732 dL_law__2733 dL_law__2735 dL_law__2736 dL_law__2737 rfl rfl rfl hi (by decide) ?_
  refine k_cV (pc' := 2741) (d' := 99) [mI (sx Ω (i + 1))] [] (c_X11_seed (d := 99) (by decide) h1) cw_L_289 kc_10 w_479 w_480 dL_law__2738 rfl (by decide) rfl rfl (by decide) sk_0 rfl rfl (by omega) (by omega) ?_
  refine j_aload_n (pc' := 2742) dL_law__2741 rfl rfl ?_
  refine j_arg (pc' := 2748) (j := 1) dL_law__2742 dL_law__2743 dL_law__2745 dL_law__2746 dL_law__2747 rfl rfl rfl hi (by decide) ?_
  refine k_cV (pc' := 2751) (d' := 99) [mI (sx Ω (i + 1))] [mI v] (c_X12_seed (d := 99) (by decide) h2) cw_L_292 kc_11 w_2205 w_2206 dL_law__2748 rfl (by decide) rfl rfl (by decide) sk_133 rfl rfl (by omega) (by omega) ?_
  refine j_icmp_same (tgt := 2818) dL_law__2751 rfl ?_
  exact j_widen (by omega) (by omega) (kk F I')
theorem lc_46 {Ω : mO} {Z : mZ} {n i : Int} {D : mD} {c0 k0 : Nat} (hi : 0 ≤ i ∧ i + 6 ≤ oPn Ω ∧ oPn Ω ≤ 3072) (I : INV n D) (hn : 0 ≤ n ∧ n ≤ 90000) (hc : c0 + 2 ≤ 601024) (hk : k0 + 12 ≤ 7293034) (kk : ∀ F, INV (n + 1) F → JL Ω Z 2818 (LSm i) [] F (c0 + 2) (k0 + 12)) : JL Ω Z 2756 (LSm i) [] D c0 k0 := by
  obtain ⟨E, v, F, h1, h2, I'⟩ := a_undo I
  refine j_aload_n (pc' := 2757) dL_law__2756 rfl rfl ?_
  refine k_cV (pc' := 2760) (d' := 99) [] [] (c_X11_undo (d := 99) (by decide) h1) cw_L_293 kc_10 w_483 w_484 dL_law__2757 rfl (by decide) rfl rfl (by decide) sk_0 rfl rfl (by omega) (by omega) ?_
  refine j_aload_n (pc' := 2761) dL_law__2760 rfl rfl ?_
  refine k_cV (pc' := 2764) (d' := 99) [] [mI v] (c_X12_undo (d := 99) (by decide) h2) cw_L_296 kc_11 w_1571 w_1572 dL_law__2761 rfl (by decide) rfl rfl (by decide) sk_133 rfl rfl (by omega) (by omega) ?_
  refine j_icmp_same (tgt := 2818) dL_law__2764 rfl ?_
  exact j_widen (by omega) (by omega) (kk F I')
theorem lc_47 {Ω : mO} {Z : mZ} {n i : Int} {D : mD} {c0 k0 : Nat} (hi : 0 ≤ i ∧ i + 6 ≤ oPn Ω ∧ oPn Ω ≤ 3072) (I : INV n D) (hn : 0 ≤ n ∧ n ≤ 90000) (hc : c0 + 2 ≤ 601024) (hk : k0 + 12 ≤ 7293034) (kk : ∀ F, INV (n + 1) F → JL Ω Z 2818 (LSm i) [] F (c0 + 2) (k0 + 12)) : JL Ω Z 2769 (LSm i) [] D c0 k0 := by
  obtain ⟨E, F, h1, h2, I'⟩ := a_image I
  refine j_aload_n (pc' := 2770) dL_law__2769 rfl rfl ?_
  refine k_cVv (pc' := 2773) (d' := 99) [] [] (c_X11_image (d := 99) (by decide) h1) cw_L_297 kc_10 w_502 w_503 dL_law__2770 rfl (by decide) rfl rfl (by decide) sk_0 rfl rfl (by omega) (by omega) ?_
  refine j_aload_n (pc' := 2774) dL_law__2773 rfl rfl ?_
  refine k_cVv (pc' := 2777) (d' := 99) [] [] (c_X12_image (d := 99) (by decide) h2) cw_L_300 kc_11 w_1563 w_1564 dL_law__2774 rfl (by decide) rfl rfl (by decide) sk_133 rfl rfl (by omega) (by omega) ?_
  refine j_goto (tgt := 2818) dL_law__2777 rfl ?_
  exact j_widen (by omega) (by omega) (kk F I')
theorem lc_48 {Ω : mO} {Z : mZ} {n i : Int} {D : mD} {c0 k0 : Nat} (hi : 0 ≤ i ∧ i + 6 ≤ oPn Ω ∧ oPn Ω ≤ 3072) (I : INV n D) (hn : 0 ≤ n ∧ n ≤ 90000) (hc : c0 + 2 ≤ 601024) (hk : k0 + 12 ≤ 7293034) (kk : ∀ F, INV (n + 1) F → JL Ω Z 2818 (LSm i) [] F (c0 + 2) (k0 + 12)) : JL Ω Z 2780 (LSm i) [] D c0 k0 := by
  obtain ⟨E, v, F, h1, h2, I'⟩ := a_back I
  refine j_aload_n (pc' := 2781) dL_law__2780 rfl rfl ?_
  refine k_cV (pc' := 2784) (d' := 99) [] [] (c_X11_back (d := 99) (by decide) h1) cw_L_301 kc_10 w_517 w_518 dL_law__2781 rfl (by decide) rfl rfl (by decide) sk_0 rfl rfl (by omega) (by omega) ?_
  refine j_aload_n (pc' := 2785) dL_law__2784 rfl rfl ?_
  refine k_cV (pc' := 2788) (d' := 99) [] [mI v] (c_X12_back (d := 99) (by decide) h2) cw_L_304 kc_11 w_1567 w_1568 dL_law__2785 rfl (by decide) rfl rfl (by decide) sk_133 rfl rfl (by omega) (by omega) ?_
  refine j_icmp_same (tgt := 2818) dL_law__2788 rfl ?_
  exact j_widen (by omega) (by omega) (kk F I')
theorem lc_49 {Ω : mO} {Z : mZ} {n i : Int} {D : mD} {c0 k0 : Nat} (hi : 0 ≤ i ∧ i + 6 ≤ oPn Ω ∧ oPn Ω ≤ 3072) (I : INV n D) (hn : 0 ≤ n ∧ n ≤ 90000) (hc : c0 + 2 ≤ 601024) (hk : k0 + 12 ≤ 7293034) (kk : ∀ F, INV (n + 1) F → JL Ω Z 2818 (LSm i) [] F (c0 + 2) (k0 + 12)) : JL Ω Z 2793 (LSm i) [] D c0 k0 := by
  obtain ⟨E, v, F, h1, h2, I'⟩ := AnsI.step I (q_count I.1 (by omega) I.2.1.1 sxR)
  refine j_aload_n (pc' := 2794) dL_law__2793 rfl rfl ?_
  refine j_arg (pc' := 2800) (j := 1) dL_law__2794 dL_law__2795 dL_law__2797 dL_law__2798 dL_law__2799 rfl rfl rfl hi (by decide) ?_
  refine k_cV (pc' := 2803) (d' := 99) [mI (sx Ω (i + 1))] [] (c_X11_count (d := 99) (by decide) h1) cw_L_305 kc_10 w_463 w_464 dL_law__2800 rfl (by decide) rfl rfl (by decide) sk_0 rfl rfl (by omega) (by omega) ?_
  refine j_aload_n (pc' := 2804) dL_law__2803 rfl rfl ?_
  refine j_arg (pc' := 2810) (j := 1) dL_law__2804 dL_law__2805 dL_law__2807 dL_law__2808 dL_law__2809 rfl rfl rfl hi (by decide) ?_
  refine k_cV (pc' := 2813) (d' := 99) [mI (sx Ω (i + 1))] [mI v] (c_X12_count (d := 99) (by decide) h2) cw_L_308 kc_11 w_2209 w_2210 dL_law__2810 rfl (by decide) rfl rfl (by decide) sk_133 rfl rfl (by omega) (by omega) ?_
  refine j_icmp_same (tgt := 2818) dL_law__2813 rfl ?_
  exact j_widen (by omega) (by omega) (kk F I')
